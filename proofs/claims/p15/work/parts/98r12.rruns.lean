/-! DRAFT: reading the runs of differing samples; a symbol's name; an instance -/
theorem lp_twoN {σ τ ρ π : Type} {F : (σ → Option ρ) → σ → Option ρ} {G : (τ → Option π) → τ → Option π} (I : σ → τ → Prop) (Q : ρ → π → Prop)
    (h : ∀ (n m : Nat), (∀ s t, I s t → ∀ a b, lp F n s = some a → lp G m t = some b → Q a b) → ∀ s t, I s t → ∀ a b, F (lp F n) s = some a → G (lp G m) t = some b → Q a b) :
    ∀ (n m : Nat) (s : σ) (t : τ), I s t → ∀ a b, lp F n s = some a → lp G m t = some b → Q a b := by
  intro n
  induction n with
  | zero => intro m s t _ a b ha; exact absurd ha (by simp [lp])
  | succ n ih =>
    intro m s t hI a b ha hb
    cases m with
    | zero => exact absurd hb (by simp [lp])
    | succ m => exact h n m (fun s t hI a b => ih m s t hI a b) s t hI a b ha hb
theorem num_0 {n p v p1 r1 : Int32} {cb i9 : Nat → Int32} (hB : RB n cb i9) (hP : RP n p 0) (hx : f_BitReader_nextNumber p 0 n cb = some (v, p1, r1)) : 0 ≤ v.toInt ∧ v.toInt ≤ 8191 := by
  obtain ⟨n0, n1, _⟩ := hB
  obtain ⟨p0, p8, _⟩ := hP
  obtain ⟨o, e, q, _⟩ := s_BitReader_nextNumber (rd_place := p) (rd_refusal := 0) (cb_count := n) (cb_bytes := cb) ⟨Int32.le_iff_toInt_le.mpr (by rw [z_0]; exact p0), Int32.le_iff_toInt_le.mpr (by show p.toInt ≤ 16000; omega)⟩ (by decide) ⟨Int32.le_iff_toInt_le.mpr (by rw [z_0]; exact n0), Int32.le_iff_toInt_le.mpr n1⟩
  have e := Option.some.inj (e.symm.trans hx)
  subst e
  exact ⟨t_le q.1, t_le q.2⟩
theorem isr0 {r o : Int32} (h : r = 0) (ha : f_BitReader_isRefused r = some o) : o = 0 := by
  unfold f_BitReader_isRefused at ha
  rw [if_pos h] at ha
  exact (Option.some.inj ha).symm
theorem isr1 {r o : Int32} (h : ¬ r = 0) (ha : f_BitReader_isRefused r = some o) : o = 1 := by
  unfold f_BitReader_isRefused at ha
  rw [if_neg h] at ha
  exact (Option.some.inj ha).symm
theorem refM_0 {r w o : Int32} (h : r = 0) (ha : f_Mo_refuse r w = some o) : o = w := ref_0 h ha
theorem updL_c {f : Nat → Int64} {i j : Nat} {v : Int64} (h : j = i) : vp_updL f i v j = v := by
  unfold vp_updL; rw [if_pos h]
theorem updL_n {f : Nat → Int64} {i j : Nat} {v : Int64} (h : ¬ j = i) : vp_updL f i v j = f j := by
  unfold vp_updL; rw [if_neg h]
theorem runs_even {run dn s : Int32} {w : Nat → Int32} {d : Int64} {k : Int32 → Int64 → Option (Int64 × Int32 × Int32)} {out : Int64 × Int32 × Int32} (r0 : 0 ≤ run.toInt) (r1 : run.toInt ≤ 8191) (hb : lp (f_Mo_nextRuns_L82 run 0 s w 0 k) FU (0, dn, d) = some out) : k (dn + run) d = some out := by
  refine lp_one (fun (t : Int32 × Int32 × Int64) => 0 ≤ t.1.toInt ∧ t.1.toInt ≤ run.toInt ∧ t.2.1 = dn + t.1 ∧ d = t.2.2) (fun out => k (dn + run) d = some out) ?_ FU _ ?_ out hb
  · intro f hf t hI a hb
    obtain ⟨i, x, e⟩ := t
    dsimp only at hI
    obtain ⟨i0, i1, ex, ee⟩ := hI
    subst ex ee
    unfold f_Mo_nextRuns_L82 at hb
    simp only [jn, nl] at hb
    by_cases c : run ≤ i
    · rw [if_pos c] at hb
      have c9 := t_le c
      have ei : i = run := Int32.toInt_inj.mp (by omega)
      rw [ei] at hb
      exact hb
    · rw [if_neg c] at hb
      first | rw [if_pos rfl] at hb | rw [if_pos trivial] at hb
      have c9 := t_lt (Int32.not_le.mp c)
      have ii := inc_i (k := i) (by omega) (by omega)
      obtain ⟨_, hb⟩ := gq_e hb
      obtain ⟨_, hb⟩ := nz_e hb
      obtain ⟨_, hb⟩ := gq_e hb
      obtain ⟨_, hb⟩ := nz_e hb
      first | rw [if_pos rfl] at hb | rw [if_pos trivial] at hb
      refine hf _ ⟨by show 0 ≤ (i + 1).toInt; omega, by show (i + 1).toInt ≤ run.toInt; omega, ?_, rfl⟩ a hb
      show dn + i + 1 = dn + (i + 1)
      rw [Int32.add_assoc]
  · exact ⟨p0_0, r0, by show dn = dn + 0; rw [Int32.add_zero], rfl⟩
set_option maxHeartbeats 1000000 in
theorem runs_odd {run told turn last s : Int32} {w h : Nat → Int32} {df : Nat → Int64} {d : Int64} {k : (Nat → Int64) → Option (Int32 × Int32 × (Nat → Int64))} {k9 : Int32 → Int64 → Option (Int64 × Int32 × Int32)} {a : Int32 × Int32 × (Nat → Int64)} {out : Int64 × Int32 × Int32} (Q : (Int32 × Int32 × (Nat → Int64)) → (Int64 × Int32 × Int32) → Prop) (hw : R w 0 8) (hh : R h 0 8) (r0 : 0 ≤ run.toInt) (t0 : 0 ≤ told.toInt) (tr : told.toInt + run.toInt ≤ (((w s.toNatClampNeg).toNatClampNeg * (h s.toNatClampNeg).toNatClampNeg : Nat) : Int)) (hodd : turn - turn / (2 : Int32) * (2 : Int32) = 1) (hB : BX (w s.toNatClampNeg).toNatClampNeg (h s.toNatClampNeg).toNatClampNeg (df last.toNatClampNeg) d)
    (hk : ∀ df1 d1, BX (w s.toNatClampNeg).toNatClampNeg (h s.toNatClampNeg).toNatClampNeg (df1 last.toNatClampNeg) d1 → (∀ j : Nat, ¬ j = last.toNatClampNeg → df1 j = df j) → ∀ a out, k df1 = some a → k9 (told + run) d1 = some out → Q a out)
    (ha : lp (f_Reader_readDiffers_L109 told run turn last k) FU (told, df) = some a) (hb : lp (f_Mo_nextRuns_L82 run 0 s w 1 k9) FU (0, told, d) = some out) : Q a out := by
  have w8 := cl8 hw s.toNatClampNeg
  have h8 := cl8 hh s.toNatClampNeg
  have wt := cl_t hw s.toNatClampNeg
  generalize hW : (w s.toNatClampNeg).toNatClampNeg = W at *
  generalize hH : (h s.toNatClampNeg).toNatClampNeg = H at *
  have l2 := wh_le w8 h8
  have sm : (told + run).toInt = told.toInt + run.toInt := ya (by omega) (by omega)
  refine lp_two (fun (s : Int32 × (Nat → Int64)) (t : Int32 × Int32 × Int64) => 0 ≤ t.1.toInt ∧ t.1.toInt ≤ run.toInt ∧ s.1 = told + t.1 ∧ t.2.1 = told + t.1 ∧ BX W H (s.2 last.toNatClampNeg) t.2.2 ∧ ∀ j : Nat, ¬ j = last.toNatClampNeg → s.2 j = df j) Q ?_ _ _ _ _ ?_ a out ha hb
  · intro f g hfg q t hI a out ha hb
    obtain ⟨i, df1⟩ := q
    obtain ⟨c, dn, d1⟩ := t
    dsimp only at hI
    obtain ⟨c0, c1, e1, e2, hB, hO⟩ := hI
    subst e1 e2
    have tc : (told + c).toInt = told.toInt + c.toInt := ya (by omega) (by omega)
    unfold f_Reader_readDiffers_L109 at ha
    unfold f_Mo_nextRuns_L82 at hb
    simp only [jn, nl] at ha hb
    by_cases q : run ≤ c
    · have q9 := t_le q
      have ec : c = run := Int32.toInt_inj.mp (by omega)
      subst ec
      rw [if_pos (Int32.le_refl _)] at ha
      rw [if_pos q] at hb
      exact hk df1 d1 hB hO a out ha hb
    · have q9 := t_lt (Int32.not_le.mp q)
      rw [if_neg (fun z => by have := t_le z; omega), if_pos hodd] at ha
      rw [if_neg q] at hb
      first | rw [if_pos rfl] at hb | rw [if_pos trivial] at hb
      obtain ⟨_, ha⟩ := gq_e ha
      obtain ⟨x, hx, ha⟩ := bd_e ha
      obtain ⟨_, ha⟩ := gq_e ha
      unfold f_Top_withBit at hx
      first | rw [if_neg (by decide)] at hx | rw [if_neg id] at hx
      have hx := Option.some.inj hx
      obtain ⟨_, hb⟩ := gq_e hb
      obtain ⟨nz9, hb⟩ := nz_e hb
      obtain ⟨_, hb⟩ := gq_e hb
      obtain ⟨_, hb⟩ := nz_e hb
      first | rw [if_neg (by decide)] at hb | rw [if_neg id] at hb
      have W0 : 0 < W := by
        rcases Nat.eq_zero_or_pos W with z | z
        · exfalso
          apply nz9
          apply zero_t.mpr
          omega
        · exact z
      have ci := inc_i (k := c) (by omega) (by omega)
      have ni := nat_of (n := told + c) (Int32.le_iff_toInt_le.mpr (by rw [z_0]; omega))
      generalize hN : (told + c).toNatClampNeg = N at *
      have mW := Nat.mod_lt N W0
      have dW : N / W < H := Nat.div_lt_of_lt_mul (by omega)
      have eN : N / W * W + N % W = N := Nat.div_add_mod' N W
      have dv := i_div (a := told + c) (b := w s.toNatClampNeg) (Int32.le_iff_toInt_le.mpr (by rw [z_0]; omega)) (Int32.lt_iff_toInt_lt.mpr (by rw [z_0]; omega))
      have dv9 : ((told + c) / w s.toNatClampNeg).toInt = ((N / W : Nat) : Int) := by
        rw [dv, ← ni, ← wt, Int.natCast_ediv]
      clear dv
      generalize N / W = D at *
      generalize N % W = Mo at *
      have mv9 : ((told + c) / w s.toNatClampNeg * w s.toNatClampNeg).toInt = ((D * W : Nat) : Int) := by
        rw [i_mul dv9 wt.symm (by rw [← Int.natCast_mul]; omega) (by rw [← Int.natCast_mul]; omega), Int.natCast_mul]
      have xv9 : ((told + c) - (told + c) / w s.toNatClampNeg * w s.toNatClampNeg).toInt = ((Mo : Nat) : Int) := by
        rw [yb (by rw [mv9]; omega) (by rw [mv9]; omega), mv9]
        omega
      have e8 : ((8 : Int32) * ((told + c) / w s.toNatClampNeg) + ((told + c) - (told + c) / w s.toNatClampNeg * w s.toNatClampNeg)).toInt = ((8 * D + Mo : Nat) : Int) := by
        have m1 := i_mul (a := 8) (b := (told + c) / w s.toNatClampNeg) z_8 dv9 (by omega) (by omega)
        rw [ya (by rw [m1, xv9]; omega) (by rw [m1, xv9]; omega), m1, xv9]
        omega
      have hb1 := bx_or (m := (1 : Int64) <<< ((told + c).toInt64 &&& 63)) (m9 := (1 : Int64) <<< (((8 : Int32) * ((told + c) / w s.toNatClampNeg) + ((told + c) - (told + c) / w s.toNatClampNeg * w s.toNatClampNeg)).toInt64 &&& 63)) w8 h8 mW dW (one_at (by rw [eN]; omega) (by omega)) (one_at e8 (by omega)) hB
      refine hfg _ _ ⟨by show 0 ≤ (c + 1).toInt; omega, by show (c + 1).toInt ≤ run.toInt; omega, ?_, ?_, ?_, fun j hj => ?_⟩ a out ha hb
      · show told + c + 1 = told + (c + 1)
        rw [Int32.add_assoc]
      · show told + c + 1 = told + (c + 1)
        rw [Int32.add_assoc]
      · dsimp only
        rw [updL_c rfl, ← hx]
        exact hb1
      · dsimp only
        rw [updL_n hj]
        exact hO j hj
  · exact ⟨p0_0, r0, by show told = told + 0; rw [Int32.add_zero], by show told = told + 0; rw [Int32.add_zero], hB, fun _ _ => rfl⟩
theorem par {t : Int32} (h0 : 0 ≤ t.toInt) (h1 : t.toInt ≤ 1000) : (t - t / (2 : Int32) * (2 : Int32)).toInt = t.toInt % 2 := by
  have z2 : (2 : Int32).toInt = 2 := rfl
  have d := i_div (a := t) (b := 2) (Int32.le_iff_toInt_le.mpr (by rw [z_0]; exact h0)) (by decide)
  rw [z2] at d
  have m := i_mul (a := t / 2) (b := 2) d z2 (by omega) (by omega)
  rw [yb (by rw [m]; omega) (by rw [m]; omega), m]
  omega
set_option maxHeartbeats 2000000 in
theorem runsR {n p r s sc last p1 r1 p9 r9 : Int32} {cb i9 w h : Nat → Int32} {df df1 : Nat → Int64} {d9 : Int64} (hB : RB n cb i9) (hP : RP n p r) (r0 : r = 0) (hw : R w 0 8) (hh : R h 0 8) (esc : sc = w s.toNatClampNeg * h s.toNatClampNeg) (hz : df last.toNatClampNeg = 0)
    (ha : lp (f_Reader_readDiffers_L45 sc n cb last) FU (0, 0, p, r, df) = some (p1, r1, df1)) (hb : f_Mo_nextRuns n p r w h i9 s = some (d9, p9, r9)) :
    RS n p r p1 r1 p9 r9 ∧ (r1 = 0 → BX (w s.toNatClampNeg).toNatClampNeg (h s.toNatClampNeg).toNatClampNeg (df1 last.toNatClampNeg) d9 ∧ ∀ j : Nat, ¬ j = last.toNatClampNeg → df1 j = df j) := by
  unfold f_Mo_nextRuns at hb
  obtain ⟨_, hb⟩ := gq_e hb
  obtain ⟨_, hb⟩ := gq_e hb
  simp only [nl] at hb
  rw [← esc] at hb
  have w8 := cl8 hw s.toNatClampNeg
  have h8 := cl8 hh s.toNatClampNeg
  have wt := cl_t hw s.toNatClampNeg
  have ht := cl_t hh s.toNatClampNeg
  have l2 := wh_le w8 h8
  have st : sc.toInt = (((w s.toNatClampNeg).toNatClampNeg * (h s.toNatClampNeg).toNatClampNeg : Nat) : Int) := by
    have l3 : (((w s.toNatClampNeg).toNatClampNeg * (h s.toNatClampNeg).toNatClampNeg : Nat) : Int) = ((w s.toNatClampNeg).toNatClampNeg : Int) * ((h s.toNatClampNeg).toNatClampNeg : Int) := Int.natCast_mul _ _
    rw [esc, i_mul (a := w s.toNatClampNeg) (b := h s.toNatClampNeg) rfl rfl (by rw [← wt, ← ht, ← l3]; omega) (by rw [← wt, ← ht, ← l3]; omega), ← wt, ← ht, l3]
  refine lp_twoN (fun (q : Int32 × Int32 × Int32 × Int32 × (Nat → Int64)) (t : Int32 × Int32 × Int32 × Int64 × Int32 × Int32) => 0 ≤ q.1.toInt ∧ q.2.1 = t.2.2.1 ∧ 0 ≤ q.2.1.toInt ∧ q.2.1.toInt ≤ sc.toInt ∧ q.1.toInt ≤ q.2.1.toInt + 1 ∧ ((q.1.toInt = 0 ∧ t.1 = 1) ∨ (0 < q.1.toInt ∧ t.1 = 0)) ∧ ((q.1.toInt % 2 = 0 ∧ t.2.1 = 0) ∨ (q.1.toInt % 2 = 1 ∧ t.2.1 = 1)) ∧ q.2.2.2.1 = 0 ∧ RS n p r q.2.2.1 q.2.2.2.1 t.2.2.2.2.1 t.2.2.2.2.2 ∧ BX (w s.toNatClampNeg).toNatClampNeg (h s.toNatClampNeg).toNatClampNeg (q.2.2.2.2 last.toNatClampNeg) t.2.2.2.1 ∧ ∀ j : Nat, ¬ j = last.toNatClampNeg → q.2.2.2.2 j = df j)
    (fun (a : Int32 × Int32 × (Nat → Int64)) (d : Int64 × Int32 × Int32) => RS n p r a.1 a.2.1 d.2.1 d.2.2 ∧ (a.2.1 = 0 → BX (w s.toNatClampNeg).toNatClampNeg (h s.toNatClampNeg).toNatClampNeg (a.2.2 last.toNatClampNeg) d.1 ∧ ∀ j : Nat, ¬ j = last.toNatClampNeg → a.2.2 j = df j)) ?_ _ _ _ _ ?_ _ _ ha hb
  · intro N M hfg q t hI a out ha hb
    have hstop : ∀ (q1 q2 : Int32) (q3 : Int64) (pl v : Int32) (out : Int64 × Int32 × Int32), ¬ v = 0 → lp (f_Mo_nextRuns_L26 sc n i9 s w) M (0, q1, q2, q3, pl, v) = some out → out.2.1 = pl ∧ out.2.2 = v := by
      intro q1 q2 q3 pl v out hv hb
      cases M with
      | zero => exact absurd hb (by simp [lp])
      | succ M =>
        obtain ⟨gx, egx, hb⟩ := lp_x hb
        unfold f_Mo_nextRuns_L26 at hb
        dsimp only at hb
        rw [if_neg hv] at hb
        rw [← Option.some.inj hb]
        exact ⟨rfl, rfl⟩
    obtain ⟨f, ef⟩ : ∃ f, f = lp (f_Reader_readDiffers_L45 sc n cb last) N := ⟨_, rfl⟩
    obtain ⟨g, eg⟩ : ∃ g, g = lp (f_Mo_nextRuns_L26 sc n i9 s w) M := ⟨_, rfl⟩
    rw [← ef, ← eg] at hfg
    rw [← ef] at ha
    rw [← eg] at hb hstop
    obtain ⟨tu, to, pp, rr, dd⟩ := q
    obtain ⟨fi, lo, dn, d, p8, r8⟩ := t
    dsimp only at hI
    obtain ⟨u0, e1, o0, o1, u1, hf, hl, rz, hS, hX, hO⟩ := hI
    subst e1 rz
    have hS9 := hS
    obtain ⟨e2, e3, hP1, _, _⟩ := hS
    subst e2 e3
    unfold f_Reader_readDiffers_L45 at ha
    unfold f_Mo_nextRuns_L26 at hb
    dsimp only at ha hb
    first | rw [if_pos rfl] at hb | rw [if_pos trivial] at hb
    by_cases cs : sc ≤ to
    · rw [if_pos cs] at hb
      have ha : some (p8, (0 : Int32), dd) = some a := by
        by_cases z : sc < tu
        · rw [if_pos z] at ha; exact ha
        · rw [if_neg z, if_pos cs] at ha; exact ha
      rw [← Option.some.inj ha, ← Option.some.inj hb]
      exact ⟨hS9, fun _ => ⟨hX, hO⟩⟩
    · rw [if_neg cs] at hb
      have cs9 := t_lt (Int32.not_le.mp cs)
      rw [if_neg (fun z => by have := t_lt z; omega), if_neg cs] at ha
      obtain ⟨x, hx, ha⟩ := bd_e ha
      obtain ⟨y, hy, hb⟩ := bd_e hb
      obtain ⟨x1, x2, x3⟩ := x
      obtain ⟨y1, y2, y3⟩ := y
      obtain ⟨hS2, hv⟩ := num2 hB hP1 hx hy
      have hSt := rs_t hS9 hS2
      have hS29 := hS2
      obtain ⟨e4, e5, hP2, _, _⟩ := hS2
      subst e4 e5
      dsimp only at ha hb
      obtain ⟨j94, ej94, ha⟩ := jn_e ha
      obtain ⟨j85, ej85, ha⟩ := jn_e ha
      obtain ⟨j79, ej79, hb⟩ := jn_e hb
      -- a refusal: nothing more
      have stop : ∀ v : Int32, ¬ v = 0 → RS n p r y2 v y2 v → j94 v = some a → j79 v = some out → RS n p r a.1 a.2.1 out.2.1 out.2.2 ∧ (a.2.1 = 0 → BX (w s.toNatClampNeg).toNatClampNeg (h s.toNatClampNeg).toNatClampNeg (a.2.2 last.toNatClampNeg) out.1 ∧ ∀ j : Nat, ¬ j = last.toNatClampNeg → a.2.2 j = df j) := by
        intro v hv0 hSv ha hb
        rw [ej94] at ha
        rw [ej79] at hb
        obtain ⟨z, hz, ha⟩ := bd_e ha
        have := isr1 hv0 hz
        subst this
        first | rw [if_neg (by decide)] at ha | rw [if_neg id] at ha
        rw [← Option.some.inj ha]
        have hb : ∃ (q1 q2 : Int32) (q3 : Int64), g (0, q1, q2, q3, y2, v) = some out := by
          obtain ⟨gx, egx, hb⟩ := lpx0 hb
          unfold f_Mo_nextRuns_L82 at hb
          simp only [jn, nl] at hb
          by_cases c1 : y1 ≤ 0
          · rw [if_pos c1] at hb
            by_cases c2 : lo = 0
            · rw [if_pos c2] at hb; exact ⟨_, _, _, hb⟩
            · rw [if_neg c2] at hb; exact ⟨_, _, _, hb⟩
          · rw [if_neg c1, if_neg hv0] at hb
            by_cases c2 : lo = 0
            · rw [if_pos c2] at hb; exact ⟨_, _, _, hb⟩
            · rw [if_neg c2] at hb; exact ⟨_, _, _, hb⟩
        obtain ⟨q1, q2, q3, hb⟩ := hb
        have hg := hstop q1 q2 q3 y2 v out hv0 hb
        rw [hg.1, hg.2]
        exact ⟨hSv, fun z => absurd z hv0⟩
      by_cases cr : y3 = 0
      · have ev := hv cr
        subst ev
        subst cr
        have cr : (0 : Int32) = 0 := rfl
        rw [if_pos cr] at hb
        obtain ⟨j73, ej73, hb⟩ := jn_e hb
        have v0 : 0 ≤ y1.toInt := (num_0 hB hP1 hx).1
        have sb : (sc - to).toInt = sc.toInt - to.toInt := yb (by omega) (by omega)
        have bad : j85 () = some a → j73 () = some out → RS n p r a.1 a.2.1 out.2.1 out.2.2 ∧ (a.2.1 = 0 → BX (w s.toNatClampNeg).toNatClampNeg (h s.toNatClampNeg).toNatClampNeg (a.2.2 last.toNatClampNeg) out.1 ∧ ∀ j : Nat, ¬ j = last.toNatClampNeg → a.2.2 j = df j) := by
          intro ha hb
          rw [ej85] at ha
          rw [ej73] at hb
          obtain ⟨z1, hz1, ha⟩ := bd_e ha
          obtain ⟨z2, hz2, hb⟩ := bd_e hb
          have q1 := ref_0 cr hz1
          have q2 := refM_0 cr hz2
          subst q1 q2
          obtain ⟨_, _, g3, _, g5⟩ := hSt
          exact stop 7 (by decide) ⟨rfl, rfl, ⟨g3.1, g3.2.1, by decide⟩, fun z => absurd r0 z, fun z => absurd z (by decide)⟩ ha hb
        have good : (y1.toInt = 0 → tu.toInt = 0) → y1.toInt ≤ sc.toInt - to.toInt → j94 0 = some a → j79 0 = some out → RS n p r a.1 a.2.1 out.2.1 out.2.2 ∧ (a.2.1 = 0 → BX (w s.toNatClampNeg).toNatClampNeg (h s.toNatClampNeg).toNatClampNeg (a.2.2 last.toNatClampNeg) out.1 ∧ ∀ j : Nat, ¬ j = last.toNatClampNeg → a.2.2 j = df j) := by
          intro hz0 hle ha hb
          rw [ej94] at ha
          rw [ej79] at hb
          obtain ⟨z, hz, ha⟩ := bd_e ha
          have := isr0 cr hz
          subst this
          first | rw [if_pos rfl] at ha | rw [if_pos trivial] at ha
          have pr := par u0 (by omega)
          have ti := inc_i (k := tu) (by omega) (by omega)
          have tsum : (to + y1).toInt = to.toInt + y1.toInt := ya (by omega) (by omega)
          have next : ∀ (a : Int32 × Int32 × (Nat → Int64)) (out : Int64 × Int32 × Int32) (df2 : Nat → Int64) (d2 : Int64) (lo2 : Int32), ((tu.toInt % 2 = 0 ∧ lo2 = 1) ∨ (tu.toInt % 2 = 1 ∧ lo2 = 0)) → BX (w s.toNatClampNeg).toNatClampNeg (h s.toNatClampNeg).toNatClampNeg (df2 last.toNatClampNeg) d2 → (∀ j : Nat, ¬ j = last.toNatClampNeg → df2 j = df j) → f (tu + 1, to + y1, y2, 0, df2) = some a → g (0, lo2, to + y1, d2, y2, 0) = some out → RS n p r a.1 a.2.1 out.2.1 out.2.2 ∧ (a.2.1 = 0 → BX (w s.toNatClampNeg).toNatClampNeg (h s.toNatClampNeg).toNatClampNeg (a.2.2 last.toNatClampNeg) out.1 ∧ ∀ j : Nat, ¬ j = last.toNatClampNeg → a.2.2 j = df j) := by
            intro a out df2 d2 lo2 hl2 hX2 hO2 ha hb
            refine hfg (tu + 1, to + y1, y2, 0, df2) (0, lo2, to + y1, d2, y2, 0) ⟨by show 0 ≤ (tu + 1).toInt; omega, rfl, by show 0 ≤ (to + y1).toInt; omega, by show (to + y1).toInt ≤ sc.toInt; omega, by show (tu + 1).toInt ≤ (to + y1).toInt + 1; omega, Or.inr ⟨by show 0 < (tu + 1).toInt; omega, rfl⟩, ?_, cr, hSt, hX2, hO2⟩ a out ha hb
            show ((tu + 1).toInt % 2 = 0 ∧ lo2 = 0) ∨ ((tu + 1).toInt % 2 = 1 ∧ lo2 = 1)
            rcases hl2 with ⟨z1, z2⟩ | ⟨z1, z2⟩
            · exact Or.inr ⟨by omega, z2⟩
            · exact Or.inl ⟨by omega, z2⟩
          rcases hl with ⟨l1, l2⟩ | ⟨l1, l2⟩
          · subst l2
            rw [cr] at hb
            have hb := runs_even v0 (by omega) hb
            simp only [jn, nl] at hb
            first | rw [if_pos rfl] at hb | rw [if_pos trivial] at hb
            obtain ⟨gx, egx, ha⟩ := lpx0 ha
            unfold f_Reader_readDiffers_L109 at ha
            simp only [nl] at ha
            have nodd : ¬ tu - tu / (2 : Int32) * (2 : Int32) = 1 := fun z => by
              rw [z, z_1] at pr
              omega
            have ha : f (tu + 1, to + y1, y2, 0, dd) = some a := by
              by_cases z : to + y1 ≤ to
              · rw [if_pos z] at ha; exact ha
              · rw [if_neg z, if_neg nodd] at ha; exact ha
            exact next a out dd d 1 (Or.inl ⟨l1, rfl⟩) hX hO ha hb
          · subst l2
            rw [cr] at hb
            have odd : tu - tu / (2 : Int32) * (2 : Int32) = 1 := Int32.toInt_inj.mp (by rw [pr, z_1]; exact l1)
            refine runs_odd (h := h) (fun (a : Int32 × Int32 × (Nat → Int64)) (out : Int64 × Int32 × Int32) => RS n p r a.1 a.2.1 out.2.1 out.2.2 ∧ (a.2.1 = 0 → BX (w s.toNatClampNeg).toNatClampNeg (h s.toNatClampNeg).toNatClampNeg (a.2.2 last.toNatClampNeg) out.1 ∧ ∀ j : Nat, ¬ j = last.toNatClampNeg → a.2.2 j = df j)) hw hh v0 o0 (by omega) odd hX ?_ ha hb
            intro df2 d2 hX2 hO2 a out ha hb
            simp only [jn, nl] at ha hb
            first | rw [if_neg (by decide)] at hb | rw [if_neg id] at hb
            exact next a out df2 d2 0 (Or.inr ⟨l1, rfl⟩) hX2 (fun j hj => (hO2 j hj).trans (hO j hj)) ha hb
        by_cases c1 : sc - to < y1
        · rw [if_pos c1] at ha hb
          exact bad ha hb
        · rw [if_neg c1] at ha hb
          have c19 := t_le (Int32.not_lt.mp c1)
          by_cases c2 : y1 = 0
          · rw [if_pos c2] at ha hb
            rcases hf with ⟨f1, f2⟩ | ⟨f1, f2⟩
            · rw [if_pos (Int32.le_iff_toInt_le.mpr (by rw [z_0]; omega))] at ha
              rw [if_neg (by rw [f2]; decide)] at hb
              exact good (fun _ => f1) (by omega) ha hb
            · rw [if_neg (fun z => by have := t_le z; rw [z_0] at this; omega)] at ha
              rw [if_pos f2] at hb
              exact bad ha hb
          · rw [if_neg c2] at ha hb
            exact good (fun z => absurd (zero_t.mpr z) c2) (by omega) ha hb
      · rw [if_neg cr] at hb
        have hSv : RS n p r y2 y3 y2 y3 := hSt
        have ha : j94 y3 = some a := by
          have k85 : j85 () = some a → j94 y3 = some a := by
            intro ha
            rw [ej85] at ha
            obtain ⟨z1, hz1, ha⟩ := bd_e ha
            have := ref_k cr hz1
            subst this
            exact ha
          by_cases c1 : sc - to < x1
          · rw [if_pos c1] at ha; exact k85 ha
          · rw [if_neg c1] at ha
            by_cases c2 : x1 = 0
            · rw [if_pos c2] at ha
              by_cases c3 : tu ≤ 0
              · rw [if_pos c3] at ha; exact ha
              · rw [if_neg c3] at ha; exact k85 ha
            · rw [if_neg c2] at ha; exact ha
        exact stop y3 cr hSv ha hb
  · refine ⟨p0_0, rfl, p0_0, by show (0 : Int) ≤ sc.toInt; omega, by show (0 : Int) ≤ 0 + 1; omega, Or.inl ⟨rfl, rfl⟩, Or.inl ⟨rfl, rfl⟩, r0, rs_0 hP, ?_, fun _ _ => rfl⟩
    show BX _ _ (df last.toNatClampNeg) 0
    rw [hz]
    exact bx_0 _ _
