/-! DRAFT: reading an instance, in step -/
theorem rb_p {n p r : Int32} (h : RP n p r) : RP n p 0 := ⟨h.1, h.2.1, by decide⟩
def PL (x : Int32) : Prop := ¬ x < -8 ∧ ¬ 31 < x
theorem within_e {x a b r : Int32} (h : f_Top_isWithin x a b = some r) : (r = 1 ∧ ¬ x < a ∧ ¬ b < x) ∨ (r = 0 ∧ ¬ (¬ x < a ∧ ¬ b < x)) := by
  unfold f_Top_isWithin at h
  by_cases c : x < a
  · rw [if_pos c] at h
    exact Or.inr ⟨(Option.some.inj h).symm, fun z => z.1 c⟩
  · rw [if_neg c] at h
    by_cases d : b < x
    · rw [if_pos d] at h
      exact Or.inr ⟨(Option.some.inj h).symm, fun z => z.2 d⟩
    · rw [if_neg d] at h
      exact Or.inl ⟨(Option.some.inj h).symm, c, d⟩
theorem same_in (x a b : Int32) : f_Mo_isIn x a b = f_Top_isWithin x a b := rfl
theorem place_e {x r : Int32} (h : f_Top_isPlace x = some r) : (r = 1 ∧ PL x) ∨ (r = 0 ∧ ¬ PL x) := by
  unfold f_Top_isPlace at h
  obtain ⟨y, hy, h⟩ := bd_e h
  obtain ⟨_, h⟩ := bz_e h
  have h := Option.some.inj h
  subst h
  exact within_e hy
/-- an instance added, or not -/
def AR (cnt x y sym : Int32) (sO xs ys : Nat → Int32) (df : Nat → Int64) (k cnt1 : Int32) (sO1 xs1 ys1 : Nat → Int32) (df1 : Nat → Int64) : Prop :=
  (PL x ∧ PL y ∧ k = 1 ∧ cnt1 = cnt + 1 ∧ sO1 = upd sO cnt.toNatClampNeg sym ∧ xs1 = upd xs cnt.toNatClampNeg x ∧ ys1 = upd ys cnt.toNatClampNeg y ∧ df1 = vp_updL df cnt.toNatClampNeg 0) ∨ (¬ (PL x ∧ PL y) ∧ k = 0 ∧ cnt = cnt1 ∧ sO = sO1 ∧ xs = xs1 ∧ ys = ys1 ∧ df = df1)
theorem add_tail {cnt x y sym k cnt1 : Int32} {sO xs ys sO1 xs1 ys1 : Nat → Int32} {df df1 : Nat → Int64} (c1 : cnt.toInt < 40) (h : (if (40 : Int32) ≤ cnt then
            some ((0 : Int32), cnt, sO, xs, ys, df)
          else
            bd (f_Top_isPlace x) fun r_9 =>
            if r_9 = 0 then
              some ((0 : Int32), cnt, sO, xs, ys, df)
            else
              bd (f_Top_isPlace y) fun r_10 =>
              if r_10 = 0 then
                some ((0 : Int32), cnt, sO, xs, ys, df)
              else
                bd (f_Layout_add cnt sO xs ys df sym x y) fun (r_11, la_count_12, la_symbolOf_13, la_xs_14, la_ys_15, la_differs_16) =>
                some ((1 : Int32), la_count_12, la_symbolOf_13, la_xs_14, la_ys_15, la_differs_16)) = some (k, cnt1, sO1, xs1, ys1, df1)) : AR cnt x y sym sO xs ys df k cnt1 sO1 xs1 ys1 df1 := by
  rw [if_neg (fun z => by have := t_le z; rw [z_40] at this; omega)] at h
  obtain ⟨r1, h1, h⟩ := bd_e h
  rcases place_e h1 with ⟨e1, p1⟩ | ⟨e1, p1⟩
  · subst e1
    first | rw [if_neg (by decide)] at h | rw [if_neg id] at h
    obtain ⟨r2, h2, h⟩ := bd_e h
    rcases place_e h2 with ⟨e2, p2⟩ | ⟨e2, p2⟩
    · subst e2
      first | rw [if_neg (by decide)] at h | rw [if_neg id] at h
      obtain ⟨z, hz, h⟩ := bd_e h
      unfold f_Layout_add at hz
      obtain ⟨_, hz⟩ := gq_e hz
      obtain ⟨_, hz⟩ := gq_e hz
      obtain ⟨_, hz⟩ := gq_e hz
      obtain ⟨_, hz⟩ := gq_e hz
      simp only [nl] at hz
      have hz := Option.some.inj hz
      subst hz
      simp only [Option.some.injEq, Prod.mk.injEq] at h
      obtain ⟨e1, e2, e3, e4, e5, e6⟩ := h
      exact Or.inl ⟨p1, p2, e1.symm, e2.symm, e3.symm, e4.symm, e5.symm, e6.symm⟩
    · subst e2
      first | rw [if_pos rfl] at h | rw [if_pos trivial] at h
      simp only [Option.some.injEq, Prod.mk.injEq] at h
      obtain ⟨e1, e2, e3, e4, e5, e6⟩ := h
      exact Or.inr ⟨fun z => p2 z.2, e1.symm, e2, e3, e4, e5, e6⟩
  · subst e1
    first | rw [if_pos rfl] at h | rw [if_pos trivial] at h
    simp only [Option.some.injEq, Prod.mk.injEq] at h
    obtain ⟨e1, e2, e3, e4, e5, e6⟩ := h
    exact Or.inr ⟨fun z => p1 z.1, e1.symm, e2, e3, e4, e5, e6⟩
theorem add_e {cnt s t sym k cnt1 : Int32} {W w h sO xs ys sO1 xs1 ys1 : Nat → Int32} {df df1 : Nat → Int64} (c1 : cnt.toInt < 40) (ha : f_Layout_addByCorner cnt W w h sO xs ys df sym s t = some (k, cnt1, sO1, xs1, ys1, df1)) :
    AR cnt ((if W ((1 : Int32)).toNatClampNeg = 0 then s else t) - CC W w sym) ((if W ((1 : Int32)).toNatClampNeg = 0 then t else s) - CR W h sym) sym sO xs ys df k cnt1 sO1 xs1 ys1 df1 := by
  unfold f_Layout_addByCorner at ha
  obtain ⟨tu, htu, ha⟩ := bd_e ha
  simp only [jn, nl] at ha
  rcases turned_e htu with ⟨q, e⟩ | ⟨q, e⟩
  · subst e
    first | rw [if_pos rfl] at ha | rw [if_pos trivial] at ha
    rw [if_pos q, if_pos q]
    obtain ⟨cc, hcc, ha⟩ := bd_e ha
    rw [htu] at ha
    obtain ⟨t2, ht2, ha⟩ := bd_e ha
    have ht2 := Option.some.inj ht2
    subst ht2
    first | rw [if_pos rfl] at ha | rw [if_pos trivial] at ha
    obtain ⟨cr, hcr, ha⟩ := bd_e ha
    rw [← cc_e hcc, ← cr_e hcr]
    exact add_tail c1 ha
  · subst e
    first | rw [if_neg (by decide)] at ha | rw [if_neg id] at ha
    rw [if_neg q, if_neg q]
    obtain ⟨cc, hcc, ha⟩ := bd_e ha
    rw [htu] at ha
    obtain ⟨t2, ht2, ha⟩ := bd_e ha
    have ht2 := Option.some.inj ht2
    subst ht2
    first | rw [if_neg (by decide)] at ha | rw [if_neg id] at ha
    obtain ⟨cr, hcr, ha⟩ := bd_e ha
    rw [← cc_e hcc, ← cr_e hcr]
    exact add_tail c1 ha
/-- lists of instances, read -/
def LI (n dc : Int32) (w h sO xs ys : Nat → Int32) (df : Nat → Int64) (sO9 xs9 ys9 : Nat → Int32) (df9 : Nat → Int64) : Prop := PX n sO sO9 ∧ PX n xs xs9 ∧ PX n ys ys9 ∧ DX n sO9 w h df df9 ∧ SO n dc sO9
theorem px_push {c : Int32} {f g : Nat → Int32} {v : Int32} (c0 : 0 ≤ c.toInt) (c1 : c.toInt < 40) (h : PX c f g) : PX (c + 1) (upd f c.toNatClampNeg v) (upd g c.toNatClampNeg v) := by
  have ci := inc_i (k := c) (by omega) (by omega)
  have cN := nat_of (n := c) (Int32.le_iff_toInt_le.mpr (by rw [z_0]; exact c0))
  intro j hj
  by_cases q : j = c.toNatClampNeg
  · rw [upd_c q, upd_c q]
  · rw [upd_n q, upd_n q]; exact h j (by omega)
theorem li_push {c dc sym x y : Int32} {w h sO xs ys sO9 xs9 ys9 : Nat → Int32} {df df2 df9 : Nat → Int64} {d9 : Int64} (c0 : 0 ≤ c.toInt) (c1 : c.toInt < 40) (hL : LI c dc w h sO xs ys df sO9 xs9 ys9 df9) (s0 : 0 ≤ sym.toInt) (s1 : sym.toInt < dc.toInt) (hX : BX (w sym.toNatClampNeg).toNatClampNeg (h sym.toNatClampNeg).toNatClampNeg (df2 c.toNatClampNeg) d9) (hO : ∀ j : Nat, ¬ j = c.toNatClampNeg → df2 j = df j) :
    LI (c + 1) dc w h (upd sO c.toNatClampNeg sym) (upd xs c.toNatClampNeg x) (upd ys c.toNatClampNeg y) df2 (upd sO9 c.toNatClampNeg sym) (upd xs9 c.toNatClampNeg x) (upd ys9 c.toNatClampNeg y) (vp_updL df9 c.toNatClampNeg d9) := by
  obtain ⟨h1, h2, h3, h4, h5⟩ := hL
  have ci := inc_i (k := c) (by omega) (by omega)
  have cN := nat_of (n := c) (Int32.le_iff_toInt_le.mpr (by rw [z_0]; exact c0))
  refine ⟨px_push c0 c1 h1, px_push c0 c1 h2, px_push c0 c1 h3, fun j hj => ?_, fun j hj => ?_⟩
  · by_cases q : j = c.toNatClampNeg
    · rw [upd_c q, updL_c q, q]; exact hX
    · rw [upd_n q, updL_n q, hO j q]; exact h4 j (by omega)
  · by_cases q : j = c.toNatClampNeg
    · rw [upd_c q]; exact ⟨s0, s1⟩
    · rw [upd_n q]; exact h5 j (by omega)
/-- what stands next behind an instance placed by its corner -/
theorem next_e {c s t sym a : Int32} {W w h sO xs ys : Nat → Int32} (hW : W ((1 : Int32)).toNatClampNeg = 0 ∨ W ((1 : Int32)).toNatClampNeg = 1) (ha : f_Layout_nextS (upd sO c.toNatClampNeg sym) W (upd xs c.toNatClampNeg ((if W ((1 : Int32)).toNatClampNeg = 0 then s else t) - CC W w sym)) w (upd ys c.toNatClampNeg ((if W ((1 : Int32)).toNatClampNeg = 0 then t else s) - CR W h sym)) h c = some a) : a = s + (if W ((1 : Int32)).toNatClampNeg = 1 then h sym.toNatClampNeg else w sym.toNatClampNeg) := by
  unfold f_Layout_nextS at ha
  obtain ⟨_, ha⟩ := gq_e ha
  simp only [nl] at ha
  rw [upd_c rfl] at ha
  obtain ⟨x, hx, ha⟩ := bd_e ha
  obtain ⟨tu, htu, ha⟩ := bd_e ha
  unfold f_Layout_cornerS at hx
  rw [htu] at hx
  obtain ⟨t2, ht2, hx⟩ := bd_e hx
  have ht2 := Option.some.inj ht2
  subst ht2
  have sc : ∀ a b : Int32, a - b + b = a := fun a b => Int32.sub_add_cancel a b
  rcases turned_e htu with ⟨q, e⟩ | ⟨q, e⟩
  · subst e
    first | rw [if_pos rfl] at ha hx | rw [if_pos trivial] at ha hx
    obtain ⟨_, hx⟩ := gq_e hx
    obtain ⟨_, hx⟩ := gq_e hx
    rw [upd_c rfl, upd_c rfl] at hx
    obtain ⟨cc, hcc, hx⟩ := bd_e hx
    have hx := Option.some.inj hx
    rw [cc_e hcc, sc, if_pos q] at hx
    obtain ⟨_, ha⟩ := gq_e ha
    rw [if_neg (by rw [q]; decide), ← Option.some.inj ha, hx]
  · subst e
    first | rw [if_neg (by decide)] at ha hx | rw [if_neg id] at ha hx
    have q1 : W ((1 : Int32)).toNatClampNeg = 1 := by
      rcases hW with z | z
      · exact absurd z q
      · exact z
    obtain ⟨_, hx⟩ := gq_e hx
    obtain ⟨_, hx⟩ := gq_e hx
    rw [upd_c rfl, upd_c rfl] at hx
    obtain ⟨cc, hcc, hx⟩ := bd_e hx
    have hx := Option.some.inj hx
    rw [cr_e hcc, sc, if_neg q] at hx
    obtain ⟨_, ha⟩ := gq_e ha
    rw [if_pos q1, ← Option.some.inj ha, hx]
theorem nameR_F {n p r dc s p1 r1 s9 p9 r9 : Int32} {cb i9 row row9 row1 row8 le cd : Nat → Int32} (hB : RB n cb i9) (hP : RP n p r) (hd : dc.toInt ≤ 16) (hE : RE row row9) (hR : RW dc row9)
    (ha : f_FrontNames_readName p r n cb dc row = some (s, p1, r1, row1)) (hb : f_Mo_nextName 1 dc n p r i9 le cd row9 = some (s9, p9, r9, row8)) :
    RS n p r p1 r1 p9 r9 ∧ (r1 = 0 → s9 = s ∧ 0 ≤ s.toInt ∧ s.toInt < dc.toInt ∧ RE row1 row8 ∧ RW dc row8) := by
  unfold f_FrontNames_readName at ha
  unfold f_Mo_nextName at hb
  first | rw [if_pos rfl] at hb | rw [if_pos trivial] at hb
  obtain ⟨x, hx, ha⟩ := bd_e ha
  obtain ⟨y, hy, hb⟩ := bd_e hb
  obtain ⟨x1, x2, x3⟩ := x
  obtain ⟨y1, y2, y3⟩ := y
  obtain ⟨hS, hv⟩ := num2 hB hP hx hy
  have hS9 := hS
  obtain ⟨e1, e2, hP1, _, hm⟩ := hS
  subst e1 e2
  dsimp only at ha hb
  simp only [jn] at hb
  obtain ⟨z, hz, ha⟩ := bd_e ha
  by_cases c : y3 = 0
  · have ev := hv c
    subst ev
    subst c
    have := isr0 rfl hz
    subst this
    first | rw [if_pos rfl] at ha hb | rw [if_pos trivial] at ha hb
    by_cases d : y1 < dc
    · rw [if_pos d] at ha hb
      rw [if_pos (Int32.le_refl _)] at hb
      obtain ⟨u, hu, ha⟩ := bd_e ha
      obtain ⟨v, hv, hb⟩ := bd_e hb
      obtain ⟨_, ha⟩ := gq_e ha
      obtain ⟨_, hb⟩ := gq_e hb
      rw [same_front] at hu
      have g16 : vp_in y1 16 := by
        unfold f_Mo_toFront at hu
        exact (gq_e hu).1
      have lt := gq_lt g16
      have d9 := t_lt d
      have q1 := front_RE lt.2 (by omega) hE hu hv
      have q2 := front_RW hd lt.2 d9 hv hR
      have q3 := hR.1 y1.toNatClampNeg (by rw [nat_of (Int32.le_iff_toInt_le.mpr (by rw [z_0]; exact lt.2))]; exact d9)
      simp only [Option.some.injEq, Prod.mk.injEq] at ha hb
      obtain ⟨f1, f2, f3, f4⟩ := ha
      obtain ⟨f5, f6, f7, f8⟩ := hb
      subst f2 f3 f4 f6 f7 f8
      have u0 : u ((0 : Int32)).toNatClampNeg = v ((0 : Int32)).toNatClampNeg := q1 0 (by decide)
      refine ⟨hS9, fun _ => ⟨?_, ?_, ?_, q1, q2.1⟩⟩
      · rw [← f1, ← f5]; exact u0.symm
      · rw [← f1, u0, q2.2]; exact q3.1
      · rw [← f1, u0, q2.2]; exact q3.2
    · rw [if_neg d] at ha hb
      obtain ⟨u, hu, ha⟩ := bd_e ha
      obtain ⟨v, hv, hb⟩ := bd_e hb
      have q1 := ref_0 rfl hu
      have q2 := refM_0 rfl hv
      subst q1 q2
      first | rw [if_neg (by decide)] at hb | rw [if_neg id] at hb
      simp only [Option.some.injEq, Prod.mk.injEq] at ha hb
      obtain ⟨f1, f2, f3, f4⟩ := ha
      obtain ⟨f5, f6, f7, f8⟩ := hb
      subst f2 f3 f4 f6 f7 f8
      exact ⟨⟨rfl, rfl, ⟨hP1.1, hP1.2.1, by decide⟩, fun z => absurd (hm rfl) z, fun z => absurd z (by decide)⟩, fun z => absurd z (by decide)⟩
  · have := isr1 c hz
    subst this
    first | rw [if_neg (by decide)] at ha | rw [if_neg id] at ha
    rw [if_neg c, if_neg (pos_nz hP1.2.2 c)] at hb
    simp only [Option.some.injEq, Prod.mk.injEq] at ha hb
    obtain ⟨f1, f2, f3, f4⟩ := ha
    obtain ⟨f5, f6, f7, f8⟩ := hb
    subst f2 f3 f4 f6 f7 f8
    exact ⟨hS9, fun z => absurd z c⟩
/-- reading the differing samples of the instance added last -/
theorem diffR {n p r sym cnt p1 r1 : Int32} {cb i9 w h sO : Nat → Int32} {df df1 : Nat → Int64} {b9 p9 r9 : Int32} (hB : RB n cb i9) (hP : RP n p r) (hr : r = 0) (hw : R w 0 8) (hh : R h 0 8) (c0 : 0 ≤ cnt.toInt) (c1 : cnt.toInt < 40) (hs : sO cnt.toNatClampNeg = sym) (hz : df cnt.toNatClampNeg = 0)
    (ha : f_Reader_readDiffers (cnt + 1) p r n cb sO w h df = some (p1, r1, df1)) (hy : f_Mo_next n p r i9 = some (b9, p9, r9)) :
    (¬ b9 = 1 → RS n p r p1 r1 p9 r9 ∧ df1 = df) ∧ (b9 = 1 → ∀ d8 p8 r8, f_Mo_nextRuns n p9 r9 w h i9 sym = some (d8, p8, r8) → RS n p r p1 r1 p8 r8 ∧ (r1 = 0 → BX (w sym.toNatClampNeg).toNatClampNeg (h sym.toNatClampNeg).toNatClampNeg (df1 cnt.toNatClampNeg) d8 ∧ ∀ j : Nat, ¬ j = cnt.toNatClampNeg → df1 j = df j)) := by
  unfold f_Reader_readDiffers at ha
  obtain ⟨x, hx, ha⟩ := bd_e ha
  obtain ⟨x1, x2, x3⟩ := x
  obtain ⟨hS, e1, e2, e3⟩ := next_S hB hP hx hy
  have hS9 := hS
  obtain ⟨e4, e5, hP1, _, _⟩ := hS
  subst e1 e4 e5
  dsimp only at ha
  have ci := inc_i (k := cnt) (by omega) (by omega)
  have cz : ¬ cnt + 1 = 0 := fun z => by rw [z, z_0] at ci; omega
  have cm : cnt + 1 - 1 = cnt := Int32.add_sub_cancel cnt 1
  refine ⟨fun q => ?_, fun q => ?_⟩
  · have q0 : b9 = 0 := by
      rcases e2 with z | z
      · exact z
      · exact absurd z q
    rw [if_pos q0] at ha
    obtain ⟨f1, f2, f3⟩ := some3 ha
    subst f1 f2 f3
    exact ⟨hS9, rfl⟩
  · intro d8 p8 r8 hru
    have r90 : r9 = 0 := by
      by_cases z : r9 = 0
      · exact z
      · have := e3 z
        rw [q] at this
        exact absurd this (by decide)
    rw [if_neg (by rw [q]; decide), if_neg cz] at ha
    simp only [nl] at ha
    rw [cm] at ha
    obtain ⟨_, ha⟩ := gq_e ha
    obtain ⟨sc, hsc, ha⟩ := bd_e ha
    rw [hs] at hsc
    unfold f_Dictionary_sampleCount at hsc
    obtain ⟨_, hsc⟩ := gq_e hsc
    obtain ⟨_, hsc⟩ := gq_e hsc
    have hsc := Option.some.inj hsc
    obtain ⟨g1, g2⟩ := runsR hB hP1 r90 hw hh hsc.symm hz ha hru
    exact ⟨rs_t hS9 g1, g2⟩
/-- a refused reader reads no samples -/
theorem diff_k {n p r cnt p1 r1 : Int32} {cb w h sO : Nat → Int32} {df df1 : Nat → Int64} (hr : ¬ r = 0) (ha : f_Reader_readDiffers cnt p r n cb sO w h df = some (p1, r1, df1)) : p1 = p ∧ r1 = r := by
  unfold f_Reader_readDiffers at ha
  obtain ⟨x, hx, ha⟩ := bd_e ha
  have := next_k hr hx
  subst this
  dsimp only at ha
  first | rw [if_pos rfl] at ha | rw [if_pos trivial] at ha
  obtain ⟨f1, f2, f3⟩ := some3 ha
  exact ⟨f1, f2⟩
/-- how the two readers name a symbol -/
def NRC (n dc : Int32) (cb i9 le cd le9 cd9 : Nat → Int32) : Prop := ∀ (p r s p1 r1 s9 p9 r9 : Int32) (row row8 : Nat → Int32), RP n p r → f_CodeNames_readName p r dc le n cb cd = some (s, p1, r1) → f_Mo_nextName 0 dc n p r i9 le9 cd9 row = some (s9, p9, r9, row8) → RS n p r p1 r1 p9 r9 ∧ (r1 = 0 → s9 = s ∧ 0 ≤ s.toInt ∧ s.toInt < dc.toInt)
set_option maxHeartbeats 2000000 in
theorem inst2_C {n p r dc cnt s st cnt1 p1 r1 p2 r2 p9 r9 many9 : Int32} {cb i9 W W9 w h sO xs ys rS rX rY le cd row9 sO1 xs1 ys1 row8 rS1 rX1 rY1 leC cdC : Nat → Int32} {df rD df1 df2 rD1 : Nat → Int64} (hB : RB n cb i9) (hP : RP n p r) (rz : r = 0) (hw : R w 0 8) (hh : R h 0 8) (hW : WY W W9) (c0 : 0 ≤ cnt.toInt) (c1 : cnt.toInt < 40) (hL : LI cnt dc w h sO xs ys df rS rX rY rD) (hd : dc.toInt ≤ 16) (hN : NRC n dc cb i9 leC cdC le cd)
    (ha1 : f_Reader_readPlaced_C cnt W p r n cb dc leC cdC w h sO xs ys df s st = some (cnt1, p1, r1, sO1, xs1, ys1, df1)) (ha2 : f_Reader_readDiffers cnt1 p1 r1 n cb sO1 w h df1 = some (p2, r2, df2))
    (hb : f_Mo_readInstance 0 dc n p r cnt W9 i9 le cd row9 rS rX rY rD w h s st = some (p9, r9, many9, row8, rS1, rX1, rY1, rD1)) :
    RS n p r p2 r2 p9 r9 ∧ (r2 = 0 → cnt1 = cnt + 1 ∧ many9 = cnt + 1 ∧ LI (cnt + 1) dc w h sO1 xs1 ys1 df2 rS1 rX1 rY1 rD1 ∧ True ∧ ∀ a, f_Layout_nextS sO1 W xs1 w ys1 h cnt = some a → a = s + (if W9 ((1 : Int32)).toNatClampNeg = 1 then h (rS1 cnt.toNatClampNeg).toNatClampNeg else w (rS1 cnt.toNatClampNeg).toNatClampNeg)) := by
  obtain ⟨w0, w1, w2, w3, wb⟩ := wy_e hW
  unfold f_Reader_readPlaced_C at ha1
  unfold f_Mo_readInstance at hb
  obtain ⟨_, ha1⟩ := gq_e ha1
  obtain ⟨_, hb⟩ := gq_e hb
  obtain ⟨_, hb⟩ := gq_e hb
  simp only [nl] at ha1 hb
  rw [w2] at ha1
  obtain ⟨x, hx, ha1⟩ := bd_e ha1
  obtain ⟨y, hy, hb⟩ := bd_e hb
  obtain ⟨x1, x2, x3⟩ := x
  obtain ⟨y1, y2, y3⟩ := y
  obtain ⟨hS, e1⟩ := low2 hB hP hx hy
  have hS1 := hS
  obtain ⟨e2, e3, hP1, _, hm1⟩ := hS
  subst e1 e2 e3
  dsimp only at ha1 hb
  obtain ⟨x, hx, ha1⟩ := bd_e ha1
  obtain ⟨y, hy, hb⟩ := bd_e hb
  obtain ⟨x4, x5, x6⟩ := x
  obtain ⟨y4, y5, y6, y7⟩ := y
  obtain ⟨hS, hv⟩ := hN _ _ _ _ _ _ _ _ _ _ hP1 hx hy
  have hS2 := rs_t hS1 hS
  obtain ⟨e2, e3, hP2, _, hm2⟩ := hS
  subst e2 e3
  dsimp only at ha1 hb
  obtain ⟨z, hz, ha1⟩ := bd_e ha1
  by_cases c : y6 = 0
  · obtain ⟨ev, s0, s1⟩ := hv c
    subst ev
    subst c
    have := isr0 rfl hz
    subst this
    first | rw [if_pos rfl] at ha1 | rw [if_pos trivial] at ha1
    rw [if_pos (Int32.le_refl _)] at hb
    obtain ⟨x, hx2, ha1⟩ := bd_e ha1
    obtain ⟨k, cnt2, sO2, xs2, ys2, df3⟩ := x
    dsimp only at ha1
    have hA := add_e c1 hx2
    rw [w1] at hA
    have ecc : CC W w y4 = CC W9 w y4 := by unfold CC; rw [w0]
    have ecr : CR W h y4 = CR W9 h y4 := by unfold CR; rw [w0]
    rw [ecc, ecr] at hA
    -- the reference's place
    obtain ⟨_, hb⟩ := gq_e hb
    obtain ⟨j49, ej49, hb⟩ := jn_e hb
    have hb : ∃ X Y : Int32, X = (if W9 ((1 : Int32)).toNatClampNeg = 0 then s else ((st <<< (W9 ((2 : Int32)).toNatClampNeg &&& 31)) + y1)) - CC W9 w y4 ∧ Y = (if W9 ((1 : Int32)).toNatClampNeg = 0 then ((st <<< (W9 ((2 : Int32)).toNatClampNeg &&& 31)) + y1) else s) - CR W9 h y4 ∧
        (bd (f_Mo_isIn X (-8 : Int32) (31 : Int32)) fun r_17 =>
          jn (fun (_ : Unit) =>
              bd (f_Mo_refuse 0 (6 : Int32)) fun mo_refused_18 =>
              some (y5, mo_refused_18, cnt, y7, rS, rX, rY, rD)) fun j150 =>
          if r_17 = 0 then
            j150 ()
          else
            bd (f_Mo_isIn Y (-8 : Int32) (31 : Int32)) fun r_19 =>
            if r_19 = 0 then
              j150 ()
            else
              gq cnt 40 <|
              gq cnt 40 <|
              gq cnt 40 <|
              bd (f_Mo_next n y5 0 i9) fun (r_20, mo_at_21, mo_refused_22) =>
              if r_20 = (1 : Int32) then
                bd (f_Mo_nextRuns n mo_at_21 mo_refused_22 w h i9 y4) fun (r_24, mo_at_25, mo_refused_26) =>
                gq cnt 40 <|
                some (mo_at_25, mo_refused_26, cnt + 1, y7, (upd rS (cnt).toNatClampNeg y4), (upd rX (cnt).toNatClampNeg X), (upd rY (cnt).toNatClampNeg Y), (vp_updL rD (cnt).toNatClampNeg r_24))
              else
                gq cnt 40 <|
                some (mo_at_21, mo_refused_22, cnt + 1, y7, (upd rS (cnt).toNatClampNeg y4), (upd rX (cnt).toNatClampNeg X), (upd rY (cnt).toNatClampNeg Y), (vp_updL rD (cnt).toNatClampNeg (0 : Int64)))) = some (p9, r9, many9, row8, rS1, rX1, rY1, rD1) := by
      have col : ∀ (v : Int32) (K : Int32 → Int32 → Option (Int32 × Int32 × Int32 × (Nat → Int32) × (Nat → Int32) × (Nat → Int32) × (Nat → Int32) × (Nat → Int64))), (if W9 ((0 : Int32)).toNatClampNeg < (2 : Int32) then K v 0 else gq y4 16 <| K v (w y4.toNatClampNeg - 1)) = some (p9, r9, many9, row8, rS1, rX1, rY1, rD1) → K v (CC W9 w y4) = some (p9, r9, many9, row8, rS1, rX1, rY1, rD1) := by
        intro v K hK
        unfold CC
        by_cases q : W9 ((0 : Int32)).toNatClampNeg < (2 : Int32)
        · rw [if_pos q] at hK ⊢; exact hK
        · rw [if_neg q] at hK ⊢; exact (gq_e hK).2
      have lin : ∀ (v : Int32) (K : Int32 → Int32 → Option (Int32 × Int32 × Int32 × (Nat → Int32) × (Nat → Int32) × (Nat → Int32) × (Nat → Int32) × (Nat → Int64))), (if (W9 ((0 : Int32)).toNatClampNeg - W9 ((0 : Int32)).toNatClampNeg / (2 : Int32) * (2 : Int32)) = (1 : Int32) then gq y4 16 <| K v (h y4.toNatClampNeg - 1) else K v 0) = some (p9, r9, many9, row8, rS1, rX1, rY1, rD1) → K v (CR W9 h y4) = some (p9, r9, many9, row8, rS1, rX1, rY1, rD1) := by
        intro v K hK
        unfold CR
        by_cases q : (W9 ((0 : Int32)).toNatClampNeg - W9 ((0 : Int32)).toNatClampNeg / (2 : Int32) * (2 : Int32)) = (1 : Int32)
        · rw [if_pos q] at hK ⊢; exact (gq_e hK).2
        · rw [if_neg q] at hK ⊢; exact hK
      rcases wb with q | q
      · rw [if_neg (by rw [q]; decide), ej49] at hb
        obtain ⟨_, hb⟩ := gq_e hb
        obtain ⟨j66, ej66, hb⟩ := jn_e hb
        rw [if_neg (by rw [q]; decide), ej66] at hb
        obtain ⟨_, hb⟩ := gq_e hb
        obtain ⟨j93, ej93, hb⟩ := jn_e hb
        have hb := col s j93 hb
        rw [ej93] at hb
        obtain ⟨_, hb⟩ := gq_e hb
        obtain ⟨j123, ej123, hb⟩ := jn_e hb
        have hb := lin _ j123 hb
        rw [ej123] at hb
        rw [if_pos q, if_pos q]
        exact ⟨_, _, rfl, rfl, hb⟩
      · rw [if_pos q, ej49] at hb
        obtain ⟨_, hb⟩ := gq_e hb
        obtain ⟨j66, ej66, hb⟩ := jn_e hb
        rw [if_pos q, ej66] at hb
        obtain ⟨_, hb⟩ := gq_e hb
        obtain ⟨j93, ej93, hb⟩ := jn_e hb
        have hb := col _ j93 hb
        rw [ej93] at hb
        obtain ⟨_, hb⟩ := gq_e hb
        obtain ⟨j123, ej123, hb⟩ := jn_e hb
        have hb := lin _ j123 hb
        rw [ej123] at hb
        rw [if_neg (by rw [q]; decide), if_neg (by rw [q]; decide)]
        exact ⟨_, _, rfl, rfl, hb⟩
    obtain ⟨X, Y, eX, eY, hb⟩ := hb
    rw [← eX, ← eY] at hA
    simp only [jn] at hb
    obtain ⟨q17, hq17, hb⟩ := bd_e hb
    rw [same_in] at hq17
    rcases hA with ⟨pX, pY, k1, c2, g1, g2, g3, g4⟩ | ⟨nP, k0, c2, g1, g2, g3, g4⟩
    · subst k1 c2 g1 g2 g3 g4
      first | rw [if_neg (by decide)] at ha1 | rw [if_neg id] at ha1
      simp only [Option.some.injEq, Prod.mk.injEq] at ha1
      obtain ⟨a1, a2, a3, a5, a6, a7, a8⟩ := ha1
      subst a1 a2 a3 a5 a6 a7 a8
      have e17 : q17 = 1 := by
        rcases within_e hq17 with z | z
        · exact z.1
        · exact absurd pX z.2
      rw [if_neg (by rw [e17]; decide)] at hb
      obtain ⟨q19, hq19, hb⟩ := bd_e hb
      rw [same_in] at hq19
      have e19 : q19 = 1 := by
        rcases within_e hq19 with z | z
        · exact z.1
        · exact absurd pY z.2
      rw [if_neg (by rw [e19]; decide)] at hb
      obtain ⟨_, hb⟩ := gq_e hb
      obtain ⟨_, hb⟩ := gq_e hb
      obtain ⟨_, hb⟩ := gq_e hb
      obtain ⟨v, hv2, hb⟩ := bd_e hb
      obtain ⟨v1, v2, v3⟩ := v
      dsimp only at hb
      have dR := diffR (sym := y4) hB hP2 rfl hw hh c0 c1 (upd_c rfl) (updL_c rfl) ha2 hv2
      have nE : ∀ a, f_Layout_nextS (upd sO cnt.toNatClampNeg y4) W (upd xs cnt.toNatClampNeg X) w (upd ys cnt.toNatClampNeg Y) h cnt = some a → a = s + (if W9 ((1 : Int32)).toNatClampNeg = 1 then h (upd rS cnt.toNatClampNeg y4 cnt.toNatClampNeg).toNatClampNeg else w (upd rS cnt.toNatClampNeg y4 cnt.toNatClampNeg).toNatClampNeg) := by
        intro a hn
        rw [upd_c rfl, ← w1]
        rw [eX, eY, ← ecc, ← ecr, ← w1] at hn
        exact next_e (by rw [w1]; exact wb) hn
      by_cases b1 : v1 = 1
      · rw [if_pos b1] at hb
        obtain ⟨u, hu, hb⟩ := bd_e hb
        obtain ⟨u1, u2, u3⟩ := u
        dsimp only at hb
        obtain ⟨_, hb⟩ := gq_e hb
        simp only [Option.some.injEq, Prod.mk.injEq] at hb
        obtain ⟨b2, b3, b4, b5, b6, b7, b8, b9⟩ := hb
        subst b2 b3 b4 b5 b6 b7 b8 b9
        obtain ⟨d1, d2⟩ := dR.2 b1 _ _ _ hu
        refine ⟨rs_t hS2 d1, fun q => ?_⟩
        obtain ⟨d3, d4⟩ := d2 q
        exact ⟨rfl, rfl, li_push c0 c1 hL s0 s1 d3 (fun j hj => by rw [d4 j hj, updL_n hj]), trivial, nE⟩
      · rw [if_neg b1] at hb
        obtain ⟨_, hb⟩ := gq_e hb
        simp only [Option.some.injEq, Prod.mk.injEq] at hb
        obtain ⟨b2, b3, b4, b5, b6, b7, b8, b9⟩ := hb
        subst b2 b3 b4 b5 b6 b7 b8 b9
        obtain ⟨d1, d2⟩ := dR.1 b1
        subst d2
        refine ⟨rs_t hS2 d1, fun q => ?_⟩
        exact ⟨rfl, rfl, li_push c0 c1 hL s0 s1 (by rw [updL_c rfl]; exact bx_0 _ _) (fun j hj => updL_n hj), trivial, nE⟩
    · subst k0 c2 g1 g2 g3 g4
      first | rw [if_pos rfl] at ha1 | rw [if_pos trivial] at ha1
      obtain ⟨rf, hrf, ha1⟩ := bd_e ha1
      have e6 := ref_0 rfl hrf
      subst e6
      simp only [Option.some.injEq, Prod.mk.injEq] at ha1
      obtain ⟨a1, a2, a3, a5, a6, a7, a8⟩ := ha1
      subst a1 a2 a3 a5 a6 a7 a8
      obtain ⟨d1, d2⟩ := diff_k (by decide) ha2
      subst d1 d2
      have hb : (bd (f_Mo_refuse 0 (6 : Int32)) fun mo_refused_18 => some (p2, mo_refused_18, cnt, y7, rS, rX, rY, rD)) = some (p9, r9, many9, row8, rS1, rX1, rY1, rD1) := by
        rcases within_e hq17 with z | z
        · rw [if_neg (by rw [z.1]; decide)] at hb
          obtain ⟨q19, hq19, hb⟩ := bd_e hb
          rw [same_in] at hq19
          rcases within_e hq19 with y | y
          · exact absurd ⟨z.2, y.2⟩ nP
          · rw [if_pos y.1] at hb; exact hb
        · rw [if_pos z.1] at hb; exact hb
      obtain ⟨rf, hrf, hb⟩ := bd_e hb
      have e6 := refM_0 rfl hrf
      subst e6
      simp only [Option.some.injEq, Prod.mk.injEq] at hb
      obtain ⟨b2, b3, _⟩ := hb
      subst b2 b3
      exact ⟨⟨rfl, rfl, ⟨hP2.1, hP2.2.1, by decide⟩, fun z => absurd rz z, fun z => absurd z (by decide)⟩, fun z => absurd z (by decide)⟩
  · have := isr1 c hz
    subst this
    first | rw [if_neg (by decide)] at ha1 | rw [if_neg id] at ha1
    rw [if_neg (pos_nz hP2.2.2 c)] at hb
    simp only [Option.some.injEq, Prod.mk.injEq] at ha1 hb
    obtain ⟨a1, a2, a3, a5, a6, a7, a8⟩ := ha1
    obtain ⟨b2, b3, _⟩ := hb
    subst a2 a3 b2 b3
    obtain ⟨d1, d2⟩ := diff_k c ha2
    subst d1 d2
    exact ⟨hS2, fun z => absurd z c⟩

set_option maxHeartbeats 2000000 in
theorem inst2_F {n p r dc cnt s st cnt1 p1 r1 p2 r2 p9 r9 many9 : Int32} {cb i9 W W9 w h sO xs ys rS rX rY le cd row9 sO1 xs1 ys1 row8 rS1 rX1 rY1 row row1 : Nat → Int32} {df rD df1 df2 rD1 : Nat → Int64} (hB : RB n cb i9) (hP : RP n p r) (rz : r = 0) (hw : R w 0 8) (hh : R h 0 8) (hW : WY W W9) (c0 : 0 ≤ cnt.toInt) (c1 : cnt.toInt < 40) (hL : LI cnt dc w h sO xs ys df rS rX rY rD) (hd : dc.toInt ≤ 16) (hE : RE row row9) (hR : RW dc row9)
    (ha1 : f_Reader_readPlaced_F cnt W p r n cb dc row w h sO xs ys df s st = some (cnt1, p1, r1, row1, sO1, xs1, ys1, df1)) (ha2 : f_Reader_readDiffers cnt1 p1 r1 n cb sO1 w h df1 = some (p2, r2, df2))
    (hb : f_Mo_readInstance 1 dc n p r cnt W9 i9 le cd row9 rS rX rY rD w h s st = some (p9, r9, many9, row8, rS1, rX1, rY1, rD1)) :
    RS n p r p2 r2 p9 r9 ∧ (r2 = 0 → cnt1 = cnt + 1 ∧ many9 = cnt + 1 ∧ LI (cnt + 1) dc w h sO1 xs1 ys1 df2 rS1 rX1 rY1 rD1 ∧ (RE row1 row8 ∧ RW dc row8) ∧ ∀ a, f_Layout_nextS sO1 W xs1 w ys1 h cnt = some a → a = s + (if W9 ((1 : Int32)).toNatClampNeg = 1 then h (rS1 cnt.toNatClampNeg).toNatClampNeg else w (rS1 cnt.toNatClampNeg).toNatClampNeg)) := by
  obtain ⟨w0, w1, w2, w3, wb⟩ := wy_e hW
  unfold f_Reader_readPlaced_F at ha1
  unfold f_Mo_readInstance at hb
  obtain ⟨_, ha1⟩ := gq_e ha1
  obtain ⟨_, hb⟩ := gq_e hb
  obtain ⟨_, hb⟩ := gq_e hb
  simp only [nl] at ha1 hb
  rw [w2] at ha1
  obtain ⟨x, hx, ha1⟩ := bd_e ha1
  obtain ⟨y, hy, hb⟩ := bd_e hb
  obtain ⟨x1, x2, x3⟩ := x
  obtain ⟨y1, y2, y3⟩ := y
  obtain ⟨hS, e1⟩ := low2 hB hP hx hy
  have hS1 := hS
  obtain ⟨e2, e3, hP1, _, hm1⟩ := hS
  subst e1 e2 e3
  dsimp only at ha1 hb
  obtain ⟨x, hx, ha1⟩ := bd_e ha1
  obtain ⟨y, hy, hb⟩ := bd_e hb
  obtain ⟨x4, x5, x6, x7⟩ := x
  obtain ⟨y4, y5, y6, y7⟩ := y
  obtain ⟨hS, hv⟩ := nameR_F hB hP1 hd hE hR hx hy
  have hS2 := rs_t hS1 hS
  obtain ⟨e2, e3, hP2, _, hm2⟩ := hS
  subst e2 e3
  dsimp only at ha1 hb
  obtain ⟨z, hz, ha1⟩ := bd_e ha1
  by_cases c : y6 = 0
  · obtain ⟨ev, s0, s1, hE1, hR1⟩ := hv c
    subst ev
    subst c
    have := isr0 rfl hz
    subst this
    first | rw [if_pos rfl] at ha1 | rw [if_pos trivial] at ha1
    rw [if_pos (Int32.le_refl _)] at hb
    obtain ⟨x, hx2, ha1⟩ := bd_e ha1
    obtain ⟨k, cnt2, sO2, xs2, ys2, df3⟩ := x
    dsimp only at ha1
    have hA := add_e c1 hx2
    rw [w1] at hA
    have ecc : CC W w y4 = CC W9 w y4 := by unfold CC; rw [w0]
    have ecr : CR W h y4 = CR W9 h y4 := by unfold CR; rw [w0]
    rw [ecc, ecr] at hA
    -- the reference's place
    obtain ⟨_, hb⟩ := gq_e hb
    obtain ⟨j49, ej49, hb⟩ := jn_e hb
    have hb : ∃ X Y : Int32, X = (if W9 ((1 : Int32)).toNatClampNeg = 0 then s else ((st <<< (W9 ((2 : Int32)).toNatClampNeg &&& 31)) + y1)) - CC W9 w y4 ∧ Y = (if W9 ((1 : Int32)).toNatClampNeg = 0 then ((st <<< (W9 ((2 : Int32)).toNatClampNeg &&& 31)) + y1) else s) - CR W9 h y4 ∧
        (bd (f_Mo_isIn X (-8 : Int32) (31 : Int32)) fun r_17 =>
          jn (fun (_ : Unit) =>
              bd (f_Mo_refuse 0 (6 : Int32)) fun mo_refused_18 =>
              some (y5, mo_refused_18, cnt, y7, rS, rX, rY, rD)) fun j150 =>
          if r_17 = 0 then
            j150 ()
          else
            bd (f_Mo_isIn Y (-8 : Int32) (31 : Int32)) fun r_19 =>
            if r_19 = 0 then
              j150 ()
            else
              gq cnt 40 <|
              gq cnt 40 <|
              gq cnt 40 <|
              bd (f_Mo_next n y5 0 i9) fun (r_20, mo_at_21, mo_refused_22) =>
              if r_20 = (1 : Int32) then
                bd (f_Mo_nextRuns n mo_at_21 mo_refused_22 w h i9 y4) fun (r_24, mo_at_25, mo_refused_26) =>
                gq cnt 40 <|
                some (mo_at_25, mo_refused_26, cnt + 1, y7, (upd rS (cnt).toNatClampNeg y4), (upd rX (cnt).toNatClampNeg X), (upd rY (cnt).toNatClampNeg Y), (vp_updL rD (cnt).toNatClampNeg r_24))
              else
                gq cnt 40 <|
                some (mo_at_21, mo_refused_22, cnt + 1, y7, (upd rS (cnt).toNatClampNeg y4), (upd rX (cnt).toNatClampNeg X), (upd rY (cnt).toNatClampNeg Y), (vp_updL rD (cnt).toNatClampNeg (0 : Int64)))) = some (p9, r9, many9, row8, rS1, rX1, rY1, rD1) := by
      have col : ∀ (v : Int32) (K : Int32 → Int32 → Option (Int32 × Int32 × Int32 × (Nat → Int32) × (Nat → Int32) × (Nat → Int32) × (Nat → Int32) × (Nat → Int64))), (if W9 ((0 : Int32)).toNatClampNeg < (2 : Int32) then K v 0 else gq y4 16 <| K v (w y4.toNatClampNeg - 1)) = some (p9, r9, many9, row8, rS1, rX1, rY1, rD1) → K v (CC W9 w y4) = some (p9, r9, many9, row8, rS1, rX1, rY1, rD1) := by
        intro v K hK
        unfold CC
        by_cases q : W9 ((0 : Int32)).toNatClampNeg < (2 : Int32)
        · rw [if_pos q] at hK ⊢; exact hK
        · rw [if_neg q] at hK ⊢; exact (gq_e hK).2
      have lin : ∀ (v : Int32) (K : Int32 → Int32 → Option (Int32 × Int32 × Int32 × (Nat → Int32) × (Nat → Int32) × (Nat → Int32) × (Nat → Int32) × (Nat → Int64))), (if (W9 ((0 : Int32)).toNatClampNeg - W9 ((0 : Int32)).toNatClampNeg / (2 : Int32) * (2 : Int32)) = (1 : Int32) then gq y4 16 <| K v (h y4.toNatClampNeg - 1) else K v 0) = some (p9, r9, many9, row8, rS1, rX1, rY1, rD1) → K v (CR W9 h y4) = some (p9, r9, many9, row8, rS1, rX1, rY1, rD1) := by
        intro v K hK
        unfold CR
        by_cases q : (W9 ((0 : Int32)).toNatClampNeg - W9 ((0 : Int32)).toNatClampNeg / (2 : Int32) * (2 : Int32)) = (1 : Int32)
        · rw [if_pos q] at hK ⊢; exact (gq_e hK).2
        · rw [if_neg q] at hK ⊢; exact hK
      rcases wb with q | q
      · rw [if_neg (by rw [q]; decide), ej49] at hb
        obtain ⟨_, hb⟩ := gq_e hb
        obtain ⟨j66, ej66, hb⟩ := jn_e hb
        rw [if_neg (by rw [q]; decide), ej66] at hb
        obtain ⟨_, hb⟩ := gq_e hb
        obtain ⟨j93, ej93, hb⟩ := jn_e hb
        have hb := col s j93 hb
        rw [ej93] at hb
        obtain ⟨_, hb⟩ := gq_e hb
        obtain ⟨j123, ej123, hb⟩ := jn_e hb
        have hb := lin _ j123 hb
        rw [ej123] at hb
        rw [if_pos q, if_pos q]
        exact ⟨_, _, rfl, rfl, hb⟩
      · rw [if_pos q, ej49] at hb
        obtain ⟨_, hb⟩ := gq_e hb
        obtain ⟨j66, ej66, hb⟩ := jn_e hb
        rw [if_pos q, ej66] at hb
        obtain ⟨_, hb⟩ := gq_e hb
        obtain ⟨j93, ej93, hb⟩ := jn_e hb
        have hb := col _ j93 hb
        rw [ej93] at hb
        obtain ⟨_, hb⟩ := gq_e hb
        obtain ⟨j123, ej123, hb⟩ := jn_e hb
        have hb := lin _ j123 hb
        rw [ej123] at hb
        rw [if_neg (by rw [q]; decide), if_neg (by rw [q]; decide)]
        exact ⟨_, _, rfl, rfl, hb⟩
    obtain ⟨X, Y, eX, eY, hb⟩ := hb
    rw [← eX, ← eY] at hA
    simp only [jn] at hb
    obtain ⟨q17, hq17, hb⟩ := bd_e hb
    rw [same_in] at hq17
    rcases hA with ⟨pX, pY, k1, c2, g1, g2, g3, g4⟩ | ⟨nP, k0, c2, g1, g2, g3, g4⟩
    · subst k1 c2 g1 g2 g3 g4
      first | rw [if_neg (by decide)] at ha1 | rw [if_neg id] at ha1
      simp only [Option.some.injEq, Prod.mk.injEq] at ha1
      obtain ⟨a1, a2, a3, a4, a5, a6, a7, a8⟩ := ha1
      subst a1 a2 a3 a4 a5 a6 a7 a8
      have e17 : q17 = 1 := by
        rcases within_e hq17 with z | z
        · exact z.1
        · exact absurd pX z.2
      rw [if_neg (by rw [e17]; decide)] at hb
      obtain ⟨q19, hq19, hb⟩ := bd_e hb
      rw [same_in] at hq19
      have e19 : q19 = 1 := by
        rcases within_e hq19 with z | z
        · exact z.1
        · exact absurd pY z.2
      rw [if_neg (by rw [e19]; decide)] at hb
      obtain ⟨_, hb⟩ := gq_e hb
      obtain ⟨_, hb⟩ := gq_e hb
      obtain ⟨_, hb⟩ := gq_e hb
      obtain ⟨v, hv2, hb⟩ := bd_e hb
      obtain ⟨v1, v2, v3⟩ := v
      dsimp only at hb
      have dR := diffR (sym := y4) hB hP2 rfl hw hh c0 c1 (upd_c rfl) (updL_c rfl) ha2 hv2
      have nE : ∀ a, f_Layout_nextS (upd sO cnt.toNatClampNeg y4) W (upd xs cnt.toNatClampNeg X) w (upd ys cnt.toNatClampNeg Y) h cnt = some a → a = s + (if W9 ((1 : Int32)).toNatClampNeg = 1 then h (upd rS cnt.toNatClampNeg y4 cnt.toNatClampNeg).toNatClampNeg else w (upd rS cnt.toNatClampNeg y4 cnt.toNatClampNeg).toNatClampNeg) := by
        intro a hn
        rw [upd_c rfl, ← w1]
        rw [eX, eY, ← ecc, ← ecr, ← w1] at hn
        exact next_e (by rw [w1]; exact wb) hn
      by_cases b1 : v1 = 1
      · rw [if_pos b1] at hb
        obtain ⟨u, hu, hb⟩ := bd_e hb
        obtain ⟨u1, u2, u3⟩ := u
        dsimp only at hb
        obtain ⟨_, hb⟩ := gq_e hb
        simp only [Option.some.injEq, Prod.mk.injEq] at hb
        obtain ⟨b2, b3, b4, b5, b6, b7, b8, b9⟩ := hb
        subst b2 b3 b4 b5 b6 b7 b8 b9
        obtain ⟨d1, d2⟩ := dR.2 b1 _ _ _ hu
        refine ⟨rs_t hS2 d1, fun q => ?_⟩
        obtain ⟨d3, d4⟩ := d2 q
        exact ⟨rfl, rfl, li_push c0 c1 hL s0 s1 d3 (fun j hj => by rw [d4 j hj, updL_n hj]), ⟨hE1, hR1⟩, nE⟩
      · rw [if_neg b1] at hb
        obtain ⟨_, hb⟩ := gq_e hb
        simp only [Option.some.injEq, Prod.mk.injEq] at hb
        obtain ⟨b2, b3, b4, b5, b6, b7, b8, b9⟩ := hb
        subst b2 b3 b4 b5 b6 b7 b8 b9
        obtain ⟨d1, d2⟩ := dR.1 b1
        subst d2
        refine ⟨rs_t hS2 d1, fun q => ?_⟩
        exact ⟨rfl, rfl, li_push c0 c1 hL s0 s1 (by rw [updL_c rfl]; exact bx_0 _ _) (fun j hj => updL_n hj), ⟨hE1, hR1⟩, nE⟩
    · subst k0 c2 g1 g2 g3 g4
      first | rw [if_pos rfl] at ha1 | rw [if_pos trivial] at ha1
      obtain ⟨rf, hrf, ha1⟩ := bd_e ha1
      have e6 := ref_0 rfl hrf
      subst e6
      simp only [Option.some.injEq, Prod.mk.injEq] at ha1
      obtain ⟨a1, a2, a3, a4, a5, a6, a7, a8⟩ := ha1
      subst a1 a2 a3 a4 a5 a6 a7 a8
      obtain ⟨d1, d2⟩ := diff_k (by decide) ha2
      subst d1 d2
      have hb : (bd (f_Mo_refuse 0 (6 : Int32)) fun mo_refused_18 => some (p2, mo_refused_18, cnt, y7, rS, rX, rY, rD)) = some (p9, r9, many9, row8, rS1, rX1, rY1, rD1) := by
        rcases within_e hq17 with z | z
        · rw [if_neg (by rw [z.1]; decide)] at hb
          obtain ⟨q19, hq19, hb⟩ := bd_e hb
          rw [same_in] at hq19
          rcases within_e hq19 with y | y
          · exact absurd ⟨z.2, y.2⟩ nP
          · rw [if_pos y.1] at hb; exact hb
        · rw [if_pos z.1] at hb; exact hb
      obtain ⟨rf, hrf, hb⟩ := bd_e hb
      have e6 := refM_0 rfl hrf
      subst e6
      simp only [Option.some.injEq, Prod.mk.injEq] at hb
      obtain ⟨b2, b3, _⟩ := hb
      subst b2 b3
      exact ⟨⟨rfl, rfl, ⟨hP2.1, hP2.2.1, by decide⟩, fun z => absurd rz z, fun z => absurd z (by decide)⟩, fun z => absurd z (by decide)⟩
  · have := isr1 c hz
    subst this
    first | rw [if_neg (by decide)] at ha1 | rw [if_neg id] at ha1
    rw [if_neg (pos_nz hP2.2.2 c)] at hb
    simp only [Option.some.injEq, Prod.mk.injEq] at ha1 hb
    obtain ⟨a1, a2, a3, a4, a5, a6, a7, a8⟩ := ha1
    obtain ⟨b2, b3, _⟩ := hb
    subst a2 a3 b2 b3
    obtain ⟨d1, d2⟩ := diff_k c ha2
    subst d1 d2
    exact ⟨hS2, fun z => absurd z c⟩
