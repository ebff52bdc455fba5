/-! calls, in step: byteAt, feed, pass, refine, clear -/
theorem z_2000 : (2000 : Int32).toInt = 2000 := rfl
theorem int_e {c lo hi : Int32} (h : lo ≤ c ∧ c ≤ hi) : lo.toInt ≤ c.toInt ∧ c.toInt ≤ hi.toInt := ⟨t_le h.1, t_le h.2⟩
theorem pb_push {n v : Int32} {f g : Nat → Int32} (n0 : 0 ≤ n.toInt) (n1 : n.toInt ≤ 2000) (h : PX n f g) : PX (n + 1) (upd f n.toNatClampNeg v) (upd g n.toNatClampNeg v) := by
  intro j hj
  have ci := inc_i (k := n) (by omega) (by omega)
  have nn := nat_of (n := n) (Int32.le_iff_toInt_le.mpr (by rw [z_0]; exact n0))
  by_cases q : j = n.toNatClampNeg
  · rw [upd_c q, upd_c q]
  · rw [upd_n q, upd_n q]; exact h j (by omega)
theorem byte_TM {n p : Int32} {out : Nat → Int64} {b o9 : Nat → Int32} {o : Int32 × (Nat → Int64)} {m : Int32 × Int32} (hB : RB n b o9) (ha : f_Law_byteAt out n b p = some o) (hb : f_Mo_byteAt n o9 p = some m) : o.1 = m.2 ∧ (o.1 = 0 → o.2 ((0 : Int32)).toNatClampNeg = m.1.toInt64) := by
  obtain ⟨n0, n1, hP⟩ := hB
  unfold f_Law_byteAt f_Top_byteAt at ha
  unfold f_Mo_byteAt at hb
  obtain ⟨x, hx, ha⟩ := bd_e ha
  obtain ⟨r, hr, hx⟩ := bd_e hx
  obtain ⟨s, hs, hb⟩ := bd_e hb
  rw [same_in] at hs
  have e := Option.some.inj (hr.symm.trans hs)
  subst e
  dsimp only [jn, nl] at hx hb
  rcases within_t n0 n1 hr with ⟨e1, q0, q1⟩ | ⟨e1, q⟩
  · rw [if_neg (by rw [e1]; decide)] at hx hb
    obtain ⟨_, hx⟩ := gq_e hx
    have hx := Option.some.inj hx
    subst hx
    try dsimp only [nl] at ha
    obtain ⟨_, ha⟩ := gq_e ha
    first | rw [if_pos (by decide)] at hb | rw [if_pos trivial] at hb
    obtain ⟨_, hb⟩ := gq_e hb
    rw [← Option.some.inj ha, ← Option.some.inj hb]
    refine ⟨rfl, fun _ => ?_⟩
    show vp_updL out ((0 : Int32)).toNatClampNeg (b p.toNatClampNeg).toInt64 ((0 : Int32)).toNatClampNeg = (o9 p.toNatClampNeg).toInt64
    rw [out_0, px_at hP q0 q1]
  · rw [if_pos e1] at hx hb
    have hx := Option.some.inj hx
    subst hx
    try dsimp only [nl] at ha
    first | rw [if_neg (by decide)] at hb | rw [if_neg id] at hb
    first | rw [if_pos rfl] at ha | rw [if_pos trivial] at ha
    rw [← Option.some.inj ha, ← Option.some.inj hb]
    exact ⟨rfl, fun z => by first | exact no1 z | exact no2 z | exact no3 z⟩
theorem feed_TM {n p : Int32} {out : Nat → Int64} {cb i9 : Nat → Int32} {o : Int32 × (Nat → Int64) × Int32 × (Nat → Int32)} {m : Int32 × Int32 × Int32 × (Nat → Int32)} (hB : RB n cb i9) (ha : f_Law_feed out n cb p = some o) (hb : f_Mo_feed n i9 p = some m) : o.1 = m.2.1 ∧ (o.1 = 0 → o.2.1 ((0 : Int32)).toNatClampNeg = m.1.toInt64) ∧ o.2.2.1 = m.2.2.1 ∧ RB m.2.2.1 o.2.2.2 m.2.2.2 := by
  obtain ⟨n0, n1, hP⟩ := hB
  unfold f_Law_feed f_Top_feed at ha
  unfold f_Mo_feed at hb
  obtain ⟨x, hx, ha⟩ := bd_e ha
  obtain ⟨r, hr, hx⟩ := bd_e hx
  obtain ⟨s, hs, hb⟩ := bd_e hb
  rw [same_in] at hs
  have e := Option.some.inj (hr.symm.trans hs)
  subst e
  dsimp only [jn, nl] at hx hb
  by_cases c : r = 0
  · rw [if_pos c] at hx hb
    have hx := Option.some.inj hx
    subst hx
    try dsimp only [nl] at ha
    first | rw [if_neg (by decide)] at hb | rw [if_neg id] at hb
    first | rw [if_pos rfl] at ha | rw [if_pos trivial] at ha
    rw [← Option.some.inj ha, ← Option.some.inj hb]
    exact ⟨rfl, fun z => by first | exact no1 z | exact no2 z | exact no3 z, rfl, n0, n1, hP⟩
  · rw [if_neg c] at hx hb
    by_cases c4 : n < 2000
    · have c49 := t_lt c4
      rw [z_2000] at c49
      rw [if_pos c4] at hx
      rw [if_neg (fun z => by rw [z, z_2000] at c49; omega)] at hb
      first | rw [if_pos (by decide)] at hb | rw [if_pos trivial] at hb
      obtain ⟨y, hy, hx⟩ := bd_e hx
      unfold f_ByteRow_append at hy
      rw [if_neg (fun z => by have := t_le z; rw [z_2000] at this; omega)] at hy
      obtain ⟨_, hy⟩ := gq_e hy
      dsimp only [nl] at hy
      have hy := Option.some.inj hy
      subst hy
      have hx := Option.some.inj hx
      subst hx
      try dsimp only [nl] at ha
      obtain ⟨_, ha⟩ := gq_e ha
      obtain ⟨_, hb⟩ := gq_e hb
      rw [← Option.some.inj ha, ← Option.some.inj hb]
      have ci := inc_i (k := n) (by omega) (by omega)
      exact ⟨rfl, fun _ => (by show vp_updL out ((0 : Int32)).toNatClampNeg (n + 1).toInt64 ((0 : Int32)).toNatClampNeg = (n + 1).toInt64; exact out_0), rfl, (by show 0 ≤ (n + 1).toInt; omega), (by show (n + 1).toInt ≤ 2000; omega), pb_push n0 (by omega) hP⟩
    · have c49 := t_le (Int32.not_lt.mp c4)
      rw [z_2000] at c49
      have e40 : n = 2000 := Int32.toInt_inj.mp (by rw [z_2000]; omega)
      rw [if_neg c4] at hx
      have hx := Option.some.inj hx
      subst hx
      try dsimp only [nl] at ha
      rw [if_pos e40] at hb
      first | rw [if_neg (by decide)] at hb | rw [if_neg id] at hb
      first | rw [if_neg (by decide), if_pos rfl] at ha | rw [if_neg id, if_pos trivial] at ha
      rw [← Option.some.inj ha, ← Option.some.inj hb]
      exact ⟨rfl, fun z => by first | exact no1 z | exact no2 z | exact no3 z, rfl, n0, n1, hP⟩
theorem pass_TM {T n : Int32} {out : Nat → Int64} {tb o9 cb i9 : Nat → Int32} {o : Int32 × (Nat → Int64) × Int32 × (Nat → Int32)} {m : Int32 × Int32 × Int32 × (Nat → Int32)} (hO : RB T tb o9) (hB : RB n cb i9) (ha : f_Law_pass out T n tb cb = some o) (hb : f_Mo_pass T n i9 o9 = some m) : o.1 = m.2.1 ∧ (o.1 = 0 → o.2.1 ((0 : Int32)).toNatClampNeg = m.1.toInt64) ∧ o.2.2.1 = m.2.2.1 ∧ RB m.2.2.1 o.2.2.2 m.2.2.2 := by
  obtain ⟨n0, n1, hP⟩ := hB
  obtain ⟨t0, t1, hT⟩ := hO
  unfold f_Law_pass f_Top_pass at ha
  unfold f_Mo_pass at hb
  obtain ⟨x, hx, ha⟩ := bd_e ha
  dsimp only [jn, nl] at hb
  have es : ((2000 : Int32) - n).toInt = 2000 - n.toInt := by rw [yb (by rw [z_2000]; omega) (by rw [z_2000]; omega), z_2000]
  have ea : (n + T).toInt = n.toInt + T.toInt := ya (by omega) (by omega)
  by_cases c : T ≤ (2000 : Int32) - n
  · rw [if_pos c] at hx
    have c9 := t_le c
    rw [es] at c9
    rw [if_pos (Int32.le_iff_toInt_le.mpr (by rw [ea, z_2000]; omega))] at hb
    first | rw [if_pos (by decide)] at hb | rw [if_pos trivial] at hb
    have key := lp_two (F := f_Top_pass_L33 T tb) (G := f_Mo_pass_L35 T o9 n (fun (g : Nat → Int32) => some (n + T, (0 : Int32), n + T, g)))
      (fun s t => s.1 = t.1 ∧ 0 ≤ t.1.toInt ∧ t.1.toInt ≤ T.toInt ∧ s.2.1 = n + t.1 ∧ PX (n + t.1) s.2.2 t.2)
      (fun a d => ∃ f g, a = .inr (n + T, n + T, f) ∧ d = (n + T, (0 : Int32), n + T, g) ∧ PX (n + T) f g) (by
        intro f g hfg s t hI a d ha hb
        obtain ⟨i, k, u⟩ := s
        obtain ⟨i9, v⟩ := t
        obtain ⟨e1, k0, k1, e2, hX⟩ := hI
        dsimp only at e1 k0 k1 e2 hX
        subst e1
        subst e2
        unfold f_Top_pass_L33 at ha
        unfold f_Mo_pass_L35 at hb
        dsimp only [nl] at ha hb
        by_cases c : T ≤ i
        · rw [if_pos c] at ha hb
          have q := t_le c
          have ei : i = T := Int32.toInt_inj.mp (by omega)
          rw [ei] at ha hX
          exact ⟨u, v, (Option.some.inj ha).symm, (Option.some.inj hb).symm, hX⟩
        · rw [if_neg c] at ha hb
          obtain ⟨_, ha⟩ := gq_e ha
          obtain ⟨_, hb⟩ := gq_e hb
          obtain ⟨_, hb⟩ := gq_e hb
          obtain ⟨y, hy, ha⟩ := bd_e ha
          have q := t_lt (Int32.not_le.mp c)
          have en : (n + i).toInt = n.toInt + i.toInt := ya (by omega) (by omega)
          unfold f_ByteRow_append at hy
          rw [if_neg (fun z => by have := t_le z; rw [z_2000, en] at this; omega)] at hy
          obtain ⟨_, hy⟩ := gq_e hy
          dsimp only [nl] at hy
          have hy := Option.some.inj hy
          subst hy
          dsimp only at ha
          have ci := inc_i (k := i) (by omega) (by omega)
          have eo : tb i.toNatClampNeg = o9 i.toNatClampNeg := px_at hT k0 q
          rw [eo] at ha
          have as : n + i + 1 = n + (i + 1) := Int32.add_assoc n i 1
          refine hfg (i + 1, n + i + 1, upd u (n + i).toNatClampNeg (o9 i.toNatClampNeg)) (i + 1, upd v (n + i).toNatClampNeg (o9 i.toNatClampNeg)) ⟨rfl, ?_, ?_, as, ?_⟩ a d ha hb
          · show 0 ≤ (i + 1).toInt
            omega
          · show (i + 1).toInt ≤ T.toInt
            omega
          · show PX (n + (i + 1)) (upd u (n + i).toNatClampNeg (o9 i.toNatClampNeg)) (upd v (n + i).toNatClampNeg (o9 i.toNatClampNeg))
            rw [← as]
            exact pb_push (by omega) (by omega) hX)
      FU FU (0, n, cb) (0, i9) ⟨rfl, p0_0, by show (0 : Int32).toInt ≤ T.toInt; rw [z_0]; exact t0, (by show n = n + 0; exact (Int32.add_zero n).symm), (by show PX (n + 0) cb i9; rw [Int32.add_zero]; exact hP)⟩ x m hx hb
    obtain ⟨f, g, e1, e2, hX⟩ := key
    subst e1 e2
    try dsimp only [nl] at ha
    obtain ⟨_, ha⟩ := gq_e ha
    rw [← Option.some.inj ha]
    exact ⟨rfl, fun _ => (by show vp_updL out ((0 : Int32)).toNatClampNeg (n + T).toInt64 ((0 : Int32)).toNatClampNeg = (n + T).toInt64; exact out_0), rfl, (by show 0 ≤ (n + T).toInt; omega), (by show (n + T).toInt ≤ 2000; omega), hX⟩
  · rw [if_neg c] at hx
    have hx := Option.some.inj hx
    subst hx
    try dsimp only [nl] at ha
    have c9 : ¬ (n + T) ≤ 2000 := fun q => c (Int32.le_iff_toInt_le.mpr (by have := t_le q; rw [ea, z_2000] at this; rw [es]; omega))
    rw [if_neg c9] at hb
    first | rw [if_neg (by decide)] at hb | rw [if_neg id] at hb
    first | rw [if_pos rfl] at ha | rw [if_pos trivial] at ha
    rw [← Option.some.inj ha, ← Option.some.inj hb]
    exact ⟨rfl, fun z => by first | exact no1 z | exact no2 z | exact no3 z, rfl, n0, n1, hP⟩
theorem same_sample (w h : Nat → Int32) (a b c : Int32) : f_Mo_isSample w h a b c = f_Dictionary_hasSample w h a b c := rfl
theorem sample_e {w h : Nat → Int32} {p x v r : Int32} (hw : R w 0 8) (hh : R h 0 8) (ha : f_Dictionary_hasSample w h p x v = some r) : r = 0 ∨ (r = 1 ∧ 0 ≤ x.toInt ∧ x.toInt < (w p.toNatClampNeg).toInt ∧ 0 ≤ v.toInt ∧ v.toInt < (h p.toNatClampNeg).toInt) := by
  unfold f_Dictionary_hasSample at ha
  obtain ⟨_, ha⟩ := gq_e ha
  obtain ⟨r1, h1, ha⟩ := bd_e ha
  by_cases c : r1 = 0
  · rw [if_pos c] at ha
    exact Or.inl (Option.some.inj ha).symm
  · rw [if_neg c] at ha
    obtain ⟨_, ha⟩ := gq_e ha
    obtain ⟨r2, h2, ha⟩ := bd_e ha
    by_cases c2 : r2 = 0
    · rw [if_pos c2] at ha
      exact Or.inl (Option.some.inj ha).symm
    · rw [if_neg c2] at ha
      have wr := hw p.toNatClampNeg
      have hr := hh p.toNatClampNeg
      have w0 := t_le wr.1
      have w1 := t_le wr.2
      have h0 := t_le hr.1
      have h8 := t_le hr.2
      rw [z_0] at w0 h0
      rw [z_8] at w1 h8
      rcases within_t w0 (by omega) h1 with ⟨_, a, b⟩ | ⟨q, _⟩
      · rcases within_t h0 (by omega) h2 with ⟨_, a2, b2⟩ | ⟨q, _⟩
        · exact Or.inr ⟨(Option.some.inj ha).symm, a, b, a2, b2⟩
        · exact absurd q c2
      · exact absurd q c
theorem bit_pos {w0 h0 x v : Int32} (w8 : 0 ≤ w0 ∧ w0 ≤ 8) (h8 : 0 ≤ h0 ∧ h0 ≤ 8) (x0 : 0 ≤ x.toInt) (x1 : x.toInt < w0.toInt) (v0 : 0 ≤ v.toInt) (v1 : v.toInt < h0.toInt) : (v * w0 + x).toInt = ((v.toNatClampNeg * w0.toNatClampNeg + x.toNatClampNeg : Nat) : Int) ∧ v.toNatClampNeg * w0.toNatClampNeg + x.toNatClampNeg < 64 ∧ ((8 : Int32) * v + x).toInt = ((8 * v.toNatClampNeg + x.toNatClampNeg : Nat) : Int) ∧ 8 * v.toNatClampNeg + x.toNatClampNeg < 64 ∧ x.toNatClampNeg < w0.toNatClampNeg ∧ v.toNatClampNeg < h0.toNatClampNeg ∧ w0.toNatClampNeg ≤ 8 ∧ h0.toNatClampNeg ≤ 8 := by
  have wt0 := t_le w8.1
  have wt1 := t_le w8.2
  have ht0 := t_le h8.1
  have ht1 := t_le h8.2
  rw [z_0] at wt0 ht0
  rw [z_8] at wt1 ht1
  have nx := nat_of (n := x) (Int32.le_iff_toInt_le.mpr (by rw [z_0]; exact x0))
  have nv := nat_of (n := v) (Int32.le_iff_toInt_le.mpr (by rw [z_0]; exact v0))
  have nw9 := nat_of w8.1
  have nh9 := nat_of h8.1
  have pm0 : 0 ≤ v.toInt * w0.toInt := Int.mul_nonneg v0 wt0
  have pm1 : v.toInt * w0.toInt ≤ 7 * 8 := Int.mul_le_mul (by omega) wt1 wt0 (by decide)
  have e1 := i_mul (a := v) (b := w0) rfl rfl (by omega) (by omega)
  have e2 : (v * w0 + x).toInt = v.toInt * w0.toInt + x.toInt := by
    rw [ya (by rw [e1]; omega) (by rw [e1]; omega), e1]
  have e3 : ((8 : Int32) * v + x).toInt = 8 * v.toInt + x.toInt := by
    have y := i_mul (a := 8) (b := v) z_8 rfl (by omega) (by omega)
    rw [ya (by rw [y]; omega) (by rw [y]; omega), y]
  have k1 : (v * w0 + x).toInt = ((v.toNatClampNeg * w0.toNatClampNeg + x.toNatClampNeg : Nat) : Int) := by
    rw [e2, Int.natCast_add, Int.natCast_mul, nx, nv, nw9]
  have k2 : ((8 : Int32) * v + x).toInt = ((8 * v.toNatClampNeg + x.toNatClampNeg : Nat) : Int) := by
    rw [e3, Int.natCast_add, Int.natCast_mul, nx, nv]; rfl
  refine ⟨k1, ?_, k2, by omega, by omega, by omega, by omega, by omega⟩
  have : ((v.toNatClampNeg * w0.toNatClampNeg + x.toNatClampNeg : Nat) : Int) < 64 := by rw [← k1, e2]; omega
  omega
theorem dx_upd {n : Int32} {sO w h : Nat → Int32} {df df9 : Nat → Int64} {i : Nat} {d1 d9 : Int64} (hD : DX n sO w h df df9) (hX : BX (w (sO i).toNatClampNeg).toNatClampNeg (h (sO i).toNatClampNeg).toNatClampNeg d1 d9) : DX n sO w h (vp_updL df i d1) (vp_updL df9 i d9) := by
  intro j hj
  by_cases q : j = i
  · rw [updL_c q, updL_c q, q]; exact hX
  · rw [updL_n q, updL_n q]; exact hD j hj
set_option maxHeartbeats 1000000 in
theorem ref_TM {dc n p1 p2 p3 p4 : Int32} {out : Nat → Int64} {w h W sO xs ys W9 sO9 xs9 ys9 : Nat → Int32} {df df9 : Nat → Int64} {o : Int32 × (Nat → Int64) × (Nat → Int64)} {m : Int32 × Int32 × (Nat → Int64)} (hw : R w 0 8) (hh : R h 0 8) (h4 : p4 = 0 ∨ p4 = 1) (hL : LR n dc w h W sO xs ys df W9 sO9 xs9 ys9 df9)
    (ha : f_Law_refine out n sO w h df p1 p2 p3 p4 = some o) (hb : f_Mo_refine n df9 sO9 w h p1 p2 p3 p4 = some m) : o.1 = m.2.1 ∧ (o.1 = 0 → o.2.1 ((0 : Int32)).toNatClampNeg = (if m.1 = 0 then 0 else 1)) ∧ LR n dc w h W sO xs ys o.2.2 W9 sO9 xs9 ys9 m.2.2 := by
  have n0 := hL.1
  have n1 := hL.2.1
  unfold f_Law_refine f_Top_refine at ha
  unfold f_Mo_refine at hb
  obtain ⟨x, hx, ha⟩ := bd_e ha
  obtain ⟨r, hr, hx⟩ := bd_e hx
  obtain ⟨s, hs, hb⟩ := bd_e hb
  have hr := hasL_e hr
  have hs := hasM_e hs
  have e := Option.some.inj (hr.symm.trans hs)
  subst e
  dsimp only [jn, nl] at hx hb
  have bad : x = .inl "java/lang/IndexOutOfBoundsException" → some ((0 : Int32), (1 : Int32), df9) = some m → o.1 = m.2.1 ∧ (o.1 = 0 → o.2.1 ((0 : Int32)).toNatClampNeg = (if m.1 = 0 then 0 else 1)) ∧ LR n dc w h W sO xs ys o.2.2 W9 sO9 xs9 ys9 m.2.2 := by
    intro ex em
    subst ex
    try dsimp only [nl] at ha
    first | rw [if_pos rfl] at ha | rw [if_pos trivial] at ha
    rw [← Option.some.inj ha, ← Option.some.inj em]
    exact ⟨rfl, fun z => by first | exact no1 z | exact no2 z | exact no3 z, hL⟩
  rcases within_t n0 (by omega) hr with ⟨e1, q0, q1⟩ | ⟨e1, q⟩
  · rw [if_neg (by rw [e1]; decide)] at hx hb
    obtain ⟨_, hx⟩ := gq_e hx
    obtain ⟨_, hb⟩ := gq_e hb
    obtain ⟨r2, hr2, hx⟩ := bd_e hx
    obtain ⟨s2, hs2, hb⟩ := bd_e hb
    rw [same_sample] at hs2
    have es : sO p1.toNatClampNeg = sO9 p1.toNatClampNeg := px_at hL.2.2.2.1 q0 q1
    rw [es] at hr2 hx
    have e := Option.some.inj (hr2.symm.trans hs2)
    subst e
    rcases sample_e hw hh hr2 with c | ⟨c, x0, x1, v0, v1⟩
    · rw [if_pos c] at hx hb
      first | rw [if_neg (by decide)] at hb | rw [if_neg id] at hb
      exact bad (Option.some.inj hx).symm hb
    · rw [if_neg (by rw [c]; decide)] at hx hb
      first | rw [if_pos (by decide)] at hb | rw [if_pos trivial] at hb
      obtain ⟨k1, j1, k2, j2, xw, vh, w8, h8⟩ := bit_pos (hw _) (hh _) x0 x1 v0 v1
      have m1 := one_at k1 j1
      have m2 := one_at k2 j2
      have hX : BX _ _ (df p1.toNatClampNeg) (df9 p1.toNatClampNeg) := hL.2.2.2.2.2.2.1 p1.toNatClampNeg (by have := nat_of (n := p1) (Int32.le_iff_toInt_le.mpr (by rw [z_0]; exact q0)); omega)
      have bs := hX.1 p2.toNatClampNeg p3.toNatClampNeg xw vh
      obtain ⟨_, hx⟩ := gq_e hx
      obtain ⟨_, hx⟩ := gq_e hx
      obtain ⟨r4, hr4, hx⟩ := bd_e hx
      unfold f_Dictionary_sampleNumber at hr4
      obtain ⟨_, hr4⟩ := gq_e hr4
      have hr4 := Option.some.inj hr4
      subst hr4
      obtain ⟨r5, hr5, hx⟩ := bd_e hx
      obtain ⟨_, hx⟩ := gq_e hx
      obtain ⟨_, hx⟩ := gq_e hx
      rw [updL_same] at hx
      unfold f_Top_withBit at hr5
      obtain ⟨_, hb⟩ := gq_e hb
      have good : ∀ q : Int32, (q = 0 ∨ q = 1) → ∀ d1 d91 : Int64, x = .inr (q, vp_updL df p1.toNatClampNeg d1) → m = (q, 0, vp_updL df9 p1.toNatClampNeg d91) → BX (w (sO9 p1.toNatClampNeg).toNatClampNeg).toNatClampNeg (h (sO9 p1.toNatClampNeg).toNatClampNeg).toNatClampNeg d1 d91 → o.1 = m.2.1 ∧ (o.1 = 0 → o.2.1 ((0 : Int32)).toNatClampNeg = (if m.1 = 0 then 0 else 1)) ∧ LR n dc w h W sO xs ys o.2.2 W9 sO9 xs9 ys9 m.2.2 := by
        intro q hq d1 d91 ex em hX1
        subst ex
        subst em
        dsimp only [jn] at ha
        have hD := dx_upd (i := p1.toNatClampNeg) hL.2.2.2.2.2.2.1 hX1
        have hL1 : LR n dc w h W sO xs ys (vp_updL df p1.toNatClampNeg d1) W9 sO9 xs9 ys9 (vp_updL df9 p1.toNatClampNeg d91) := ⟨hL.1, hL.2.1, hL.2.2.1, hL.2.2.2.1, hL.2.2.2.2.1, hL.2.2.2.2.2.1, hD, hL.2.2.2.2.2.2.2⟩
        by_cases c0 : q = 0
        · rw [if_pos c0] at ha
          obtain ⟨_, ha⟩ := gq_e ha
          rw [← Option.some.inj ha]
          refine ⟨rfl, fun _ => ?_, hL1⟩
          show vp_updL out ((0 : Int32)).toNatClampNeg 0 ((0 : Int32)).toNatClampNeg = if q = 0 then 0 else 1
          rw [out_0, if_pos c0]
        · rw [if_neg c0] at ha
          obtain ⟨_, ha⟩ := gq_e ha
          rw [← Option.some.inj ha]
          refine ⟨rfl, fun _ => ?_, hL1⟩
          show vp_updL out ((0 : Int32)).toNatClampNeg 1 ((0 : Int32)).toNatClampNeg = if q = 0 then 0 else 1
          rw [out_0, if_neg c0]
      have n10 : ¬ (1 : Int32) = 0 := by decide
      have n01 : ¬ (0 : Int32) = 1 := by decide
      rcases h4 with r4 | r4
      · rw [if_pos r4] at hr5
        have hr5 := Option.some.inj hr5
        have hXn := bx_an w8 h8 xw vh m1 m2 hX
        by_cases bb : (df p1.toNatClampNeg).toBitVec.getLsbD (p3.toNatClampNeg * (w (sO9 p1.toNatClampNeg).toNatClampNeg).toNatClampNeg + p2.toNatClampNeg) = false
        · have c1 := cmp_0.mpr ((tq_and j1 m1).mpr bb)
          have c2 := cmp_0.mpr ((tq_is j2 m2).mpr (by rw [← bs]; exact bb))
          rw [hr5] at c1
          rw [if_pos c1] at hx
          rw [if_pos c2, if_pos r4] at hb
          obtain ⟨_, hb⟩ := gq_e hb
          obtain ⟨_, hb⟩ := gq_e hb
          rw [if_pos r4.symm] at hb
          exact good 0 (Or.inl rfl) _ _ (Option.some.inj hx).symm (Option.some.inj hb).symm (by rw [← hr5]; exact hXn)
        · have c1 : ¬ lg_cmp r5 (df p1.toNatClampNeg) = 0 := fun q => bb ((tq_and j1 m1).mp (by rw [hr5]; exact cmp_0.mp q))
          have c2 : ¬ _ := fun q => bb (by rw [bs]; exact (tq_is j2 m2).mp (cmp_0.mp q))
          rw [if_neg c1] at hx
          rw [if_neg c2, if_pos r4] at hb
          obtain ⟨_, hb⟩ := gq_e hb
          obtain ⟨_, hb⟩ := gq_e hb
          rw [if_neg (by rw [r4]; exact n10)] at hb
          exact good 1 (Or.inr rfl) _ _ (Option.some.inj hx).symm (Option.some.inj hb).symm (by rw [← hr5]; exact hXn)
      · rw [if_neg (by rw [r4]; exact n10)] at hr5
        have hr5 := Option.some.inj hr5
        have hXn := bx_or w8 h8 xw vh m1 m2 hX
        by_cases bb : (df p1.toNatClampNeg).toBitVec.getLsbD (p3.toNatClampNeg * (w (sO9 p1.toNatClampNeg).toNatClampNeg).toNatClampNeg + p2.toNatClampNeg) = false
        · have c1 : ¬ lg_cmp r5 (df p1.toNatClampNeg) = 0 := fun q => absurd ((tq_or j1 m1).mp (by rw [hr5]; exact cmp_0.mp q)) (by rw [bb]; decide)
          have c2 := cmp_0.mpr ((tq_is j2 m2).mpr (by rw [← bs]; exact bb))
          rw [if_neg c1] at hx
          rw [if_pos c2, if_neg (by rw [r4]; exact n10)] at hb
          obtain ⟨_, hb⟩ := gq_e hb
          obtain ⟨_, hb⟩ := gq_e hb
          rw [if_neg (by rw [r4]; exact n01)] at hb
          exact good 1 (Or.inr rfl) _ _ (Option.some.inj hx).symm (Option.some.inj hb).symm (by rw [← hr5]; exact hXn)
        · have bt : (df p1.toNatClampNeg).toBitVec.getLsbD (p3.toNatClampNeg * (w (sO9 p1.toNatClampNeg).toNatClampNeg).toNatClampNeg + p2.toNatClampNeg) = true := by
            cases h : (df p1.toNatClampNeg).toBitVec.getLsbD (p3.toNatClampNeg * (w (sO9 p1.toNatClampNeg).toNatClampNeg).toNatClampNeg + p2.toNatClampNeg)
            · exact absurd h bb
            · rfl
          have c1 := cmp_0.mpr ((tq_or j1 m1).mpr bt)
          have c2 : ¬ _ := fun q => bb (by rw [bs]; exact (tq_is j2 m2).mp (cmp_0.mp q))
          rw [hr5] at c1
          rw [if_pos c1] at hx
          rw [if_neg c2, if_neg (by rw [r4]; exact n10)] at hb
          obtain ⟨_, hb⟩ := gq_e hb
          obtain ⟨_, hb⟩ := gq_e hb
          rw [if_pos r4.symm] at hb
          exact good 0 (Or.inl rfl) _ _ (Option.some.inj hx).symm (Option.some.inj hb).symm (by rw [← hr5]; exact hXn)
  · rw [if_pos e1] at hx hb
    first | rw [if_neg (by decide)] at hb | rw [if_neg id] at hb
    exact bad (Option.some.inj hx).symm hb
theorem z_4 : (4 : Int32).toInt = 4 := rfl
theorem zr_push {i : Int32} {f : Nat → Int32} {v : Int32} (i0 : 0 ≤ i.toInt) (i1 : i.toInt ≤ 2000) (h : ∀ j : Nat, (j : Int) < i.toInt → f j = v) : ∀ j : Nat, (j : Int) < (i + 1).toInt → upd f i.toNatClampNeg v j = v := by
  intro j hj
  have ci := inc_i (k := i) (by omega) (by omega)
  have nn := nat_of (n := i) (Int32.le_iff_toInt_le.mpr (by rw [z_0]; exact i0))
  by_cases q : j = i.toNatClampNeg
  · rw [upd_c q]
  · rw [upd_n q]; exact h j (by omega)
theorem empty_W {W : Nat → Int32} {o : Int32 × (Nat → Int32)} (h : f_Layout_empty W = some o) : o.1 = 0 ∧ ∀ j : Nat, j < 4 → o.2 j = 0 := by
  unfold f_Layout_empty at h
  refine lp_one (F := f_Layout_empty_L7) (fun s => 0 ≤ s.1.toInt ∧ s.1.toInt ≤ 4 ∧ ∀ j : Nat, (j : Int) < s.1.toInt → s.2 j = 0) (fun a => a.1 = 0 ∧ ∀ j : Nat, j < 4 → a.2 j = 0) ?_ FU (0, W) ⟨p0_0, i0_l (by decide), fun j hj => absurd hj (by show ¬ (j : Int) < (0 : Int32).toInt; rw [z_0]; omega)⟩ o h
  intro f hf s hI a ha
  obtain ⟨i, g⟩ := s
  obtain ⟨i0, i1, hg⟩ := hI
  dsimp only at i0 i1 hg
  unfold f_Layout_empty_L7 at ha
  dsimp only [nl] at ha
  by_cases c : (4 : Int32) ≤ i
  · rw [if_pos c] at ha
    have q := t_le c
    rw [z_4] at q
    rw [← Option.some.inj ha]
    exact ⟨rfl, fun j hj => hg j (by omega)⟩
  · rw [if_neg c] at ha
    have q := t_lt (Int32.not_le.mp c)
    rw [z_4] at q
    obtain ⟨_, ha⟩ := gq_e ha
    have ci := inc_i (k := i) (by omega) (by omega)
    exact hf (i + 1, upd g i.toNatClampNeg 0) ⟨by show 0 ≤ (i + 1).toInt; omega, by show (i + 1).toInt ≤ 4; omega, zr_push i0 (by omega) hg⟩ a ha
theorem clrT {W d : Nat → Int32} {n : Nat} {o : Int32 × Int32 × (Nat → Int32) × Int32 × Int32 × (Nat → Int32)} (h : f_Top_clear W n d = some o) : o.1 = 0 ∧ o.2.1 = 0 ∧ (∀ j : Nat, j < 4 → o.2.2.1 j = 0) ∧ o.2.2.2.1 = 0 ∧ o.2.2.2.2.1 = 0 ∧ f_Page_lighten n d = some o.2.2.2.2.2 := by
  unfold f_Top_clear at h
  obtain ⟨a, ha, h⟩ := bd_e h
  obtain ⟨b, hb, h⟩ := bd_e h
  obtain ⟨a1, a2⟩ := a
  obtain ⟨e1, e2⟩ := empty_W ha
  rw [← Option.some.inj h]
  exact ⟨rfl, e1, e2, rfl, rfl, hb⟩
theorem z_576 : (576 : Int32).toInt = 576 := rfl
theorem clrM {W d : Nat → Int32} {o : Int32 × Int32 × Int32 × Int32 × Int32 × Int32 × (Nat → Int32) × (Nat → Int32)} (h : f_Mo_clear W d = some o) : o.2.1 = 0 ∧ o.2.2.1 = 0 ∧ o.2.2.2.1 = 0 ∧ o.2.2.2.2.1 = 0 ∧ (∀ j : Nat, j < 4 → o.2.2.2.2.2.2.1 j = 0) ∧ ∀ j : Nat, j < 576 → o.2.2.2.2.2.2.2 j = 0 := by
  unfold f_Mo_clear at h
  refine lp_one (fun s => 0 ≤ s.1.toInt ∧ s.1.toInt ≤ 4 ∧ ∀ j : Nat, (j : Int) < s.1.toInt → s.2 j = 0) (fun o => o.2.1 = 0 ∧ o.2.2.1 = 0 ∧ o.2.2.2.1 = 0 ∧ o.2.2.2.2.1 = 0 ∧ (∀ j : Nat, j < 4 → o.2.2.2.2.2.2.1 j = 0) ∧ ∀ j : Nat, j < 576 → o.2.2.2.2.2.2.2 j = 0) ?_ FU (0, W) ⟨p0_0, i0_l (by decide), fun j hj => absurd hj (by show ¬ (j : Int) < (0 : Int32).toInt; rw [z_0]; omega)⟩ o h
  intro f hf s hI a ha
  obtain ⟨i, g⟩ := s
  obtain ⟨i0, i1, hg⟩ := hI
  dsimp only at i0 i1 hg
  unfold f_Mo_clear_L32 at ha
  dsimp only [nl] at ha
  by_cases c : (4 : Int32) ≤ i
  · rw [if_pos c] at ha
    have q := t_le c
    rw [z_4] at q
    refine lp_one (F := f_Mo_clear_L52 g) (fun s => 0 ≤ s.1.toInt ∧ s.1.toInt ≤ 576 ∧ ∀ j : Nat, (j : Int) < s.1.toInt → s.2 j = 0) (fun o => o.2.1 = 0 ∧ o.2.2.1 = 0 ∧ o.2.2.2.1 = 0 ∧ o.2.2.2.2.1 = 0 ∧ (∀ j : Nat, j < 4 → o.2.2.2.2.2.2.1 j = 0) ∧ ∀ j : Nat, j < 576 → o.2.2.2.2.2.2.2 j = 0) ?_ FU (0, d) ⟨p0_0, i0_l (by decide), fun j hj => absurd hj (by show ¬ (j : Int) < (0 : Int32).toInt; rw [z_0]; omega)⟩ a ha
    intro f hf s hI a ha
    obtain ⟨k, u⟩ := s
    obtain ⟨k0, k1, hu⟩ := hI
    dsimp only at k0 k1 hu
    unfold f_Mo_clear_L52 at ha
    dsimp only [nl] at ha
    by_cases c : (576 : Int32) ≤ k
    · rw [if_pos c] at ha
      have q9 := t_le c
      rw [z_576] at q9
      rw [← Option.some.inj ha]
      exact ⟨rfl, rfl, rfl, rfl, fun j hj => hg j (by omega), fun j hj => hu j (by omega)⟩
    · rw [if_neg c] at ha
      have q9 := t_lt (Int32.not_le.mp c)
      rw [z_576] at q9
      obtain ⟨_, ha⟩ := gq_e ha
      rw [nb0] at ha
      have ci := inc_i (k := k) (by omega) (by omega)
      exact hf (k + 1, upd u k.toNatClampNeg 0) ⟨by show 0 ≤ (k + 1).toInt; omega, by show (k + 1).toInt ≤ 576; omega, zr_push k0 (by omega) hu⟩ a ha
  · rw [if_neg c] at ha
    have q := t_lt (Int32.not_le.mp c)
    rw [z_4] at q
    obtain ⟨_, ha⟩ := gq_e ha
    have ci := inc_i (k := i) (by omega) (by omega)
    exact hf (i + 1, upd g i.toNatClampNeg 0) ⟨by show 0 ≤ (i + 1).toInt; omega, by show (i + 1).toInt ≤ 4; omega, zr_push i0 (by omega) hg⟩ a ha
theorem lr_0 {dc : Int32} {w h W sO xs ys W9 sO9 xs9 ys9 : Nat → Int32} {df df9 : Nat → Int64} (hW : WY W W9) : LR 0 dc w h W sO xs ys df W9 sO9 xs9 ys9 df9 :=
  have no : ∀ j : Nat, ¬ (j : Int) < (0 : Int32).toInt := fun j => by rw [z_0]; omega
  ⟨by decide, by decide, hW, fun j hj => absurd hj (no j), fun j hj => absurd hj (no j), fun j hj => absurd hj (no j), fun j hj => absurd hj (no j), fun j hj => absurd hj (no j)⟩
theorem wy_0 {W W9 : Nat → Int32} (h : ∀ j : Nat, j < 4 → W j = 0) (h9 : ∀ j : Nat, j < 4 → W9 j = 0) : WY W W9 := ⟨fun j hj => by rw [h j hj, h9 j hj], Or.inl (h9 1 (by decide))⟩
theorem rb_0 {f g : Nat → Int32} : RB 0 f g := ⟨p0_0, i0_l (by decide), fun j hj => absurd hj (by rw [z_0]; omega)⟩
/-- a symbol more: what instances have isn't touched -/
theorem lr_sym {n dc p1 p2 : Int32} {w h W sO xs ys W9 sO9 xs9 ys9 : Nat → Int32} {df df9 : Nat → Int64} (d0 : 0 ≤ dc.toInt) (d1 : dc.toInt < 16) (hL : LR n dc w h W sO xs ys df W9 sO9 xs9 ys9 df9) : LR n (dc + 1) (upd w dc.toNatClampNeg p1) (upd h dc.toNatClampNeg p2) W sO xs ys df W9 sO9 xs9 ys9 df9 := by
  have ci := inc_i (k := dc) (by omega) (by omega)
  have nn := nat_of (n := dc) (Int32.le_iff_toInt_le.mpr (by rw [z_0]; exact d0))
  obtain ⟨a0, a1, hW, e1, e2, e3, hD, hS⟩ := hL
  refine ⟨a0, a1, hW, e1, e2, e3, fun j hj => ?_, fun j hj => ?_⟩
  · have q := hS j hj
    have nq := nat_of (n := sO9 j) (Int32.le_iff_toInt_le.mpr (by rw [z_0]; exact q.1))
    have ne : ¬ (sO9 j).toNatClampNeg = dc.toNatClampNeg := by omega
    rw [upd_n ne, upd_n ne]
    exact hD j hj
  · have q := hS j hj
    exact ⟨q.1, by omega⟩
