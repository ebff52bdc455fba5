/-! the page, in step -/
/-- in the class at v * w + x, in the reference at 24 v + x; outside the region light -/
def PP (w h : Int32) (f g : Nat → Int32) : Prop := (∀ x v : Nat, (x : Int) < w.toInt → (v : Int) < h.toInt → f (v * w.toNatClampNeg + x) = g (24 * v + x)) ∧ (∀ x v : Nat, x < 24 → v < 24 → (w.toInt ≤ (x : Int) ∨ h.toInt ≤ (v : Int)) → g (24 * v + x) = 0)
theorem pp_z {w h : Int32} : PP w h (fun _ => 0) (fun _ => 0) := ⟨fun _ _ _ _ => rfl, fun _ _ _ _ _ => rfl⟩
theorem z_24 : (24 : Int32).toInt = 24 := rfl
theorem pg_r {w : Int32} (hw : 1 ≤ w ∧ w ≤ 24) : 1 ≤ w.toInt ∧ w.toInt ≤ 24 ∧ ((w.toNatClampNeg : Nat) : Int) = w.toInt := by
  have a := t_le hw.1
  have b := t_le hw.2
  rw [z_1] at a
  rw [z_24] at b
  exact ⟨a, b, nat_of (n := w) (Int32.le_iff_toInt_le.mpr (by rw [z_0]; omega))⟩
theorem wh_n {w h : Int32} (hw : 1 ≤ w ∧ w ≤ 24) (hh : 1 ≤ h ∧ h ≤ 24) : (w * h).toNatClampNeg = h.toNatClampNeg * w.toNatClampNeg ∧ h.toNatClampNeg * w.toNatClampNeg ≤ 576 := by
  obtain ⟨a0, a1, na⟩ := pg_r hw
  obtain ⟨b0, b1, nb⟩ := pg_r hh
  have p0 : 0 ≤ w.toInt * h.toInt := Int.mul_nonneg (by omega) (by omega)
  have p1 : w.toInt * h.toInt ≤ 24 * 24 := Int.mul_le_mul a1 b1 (by omega) (by decide)
  have e := i_mul (a := w) (b := h) rfl rfl (by omega) (by omega)
  have n1 := nat_of (mul24 hw hh).1
  have k : (((w * h).toNatClampNeg : Nat) : Int) = ((h.toNatClampNeg * w.toNatClampNeg : Nat) : Int) := by
    rw [n1, e, Int.natCast_mul, na, nb, Int.mul_comm]
  exact ⟨Int.ofNat.inj k, Nat.mul_le_mul (show h.toNatClampNeg ≤ 24 by omega) (show w.toNatClampNeg ≤ 24 by omega)⟩
theorem pg_ix {w h x v : Int32} (hw : 1 ≤ w ∧ w ≤ 24) (hh : 1 ≤ h ∧ h ≤ 24) (x0 : 0 ≤ x.toInt) (x1 : x.toInt < w.toInt) (v0 : 0 ≤ v.toInt) (v1 : v.toInt < h.toInt) : (v * w + x).toNatClampNeg = v.toNatClampNeg * w.toNatClampNeg + x.toNatClampNeg ∧ ((24 : Int32) * v + x).toNatClampNeg = 24 * v.toNatClampNeg + x.toNatClampNeg ∧ ((x.toNatClampNeg : Nat) : Int) = x.toInt ∧ ((v.toNatClampNeg : Nat) : Int) = v.toInt := by
  obtain ⟨a0, a1, na⟩ := pg_r hw
  obtain ⟨b0, b1, nb⟩ := pg_r hh
  have nx := nat_of (n := x) (Int32.le_iff_toInt_le.mpr (by rw [z_0]; exact x0))
  have nv := nat_of (n := v) (Int32.le_iff_toInt_le.mpr (by rw [z_0]; exact v0))
  have pm0 : 0 ≤ v.toInt * w.toInt := Int.mul_nonneg v0 (by omega)
  have pm1 : v.toInt * w.toInt ≤ 24 * 24 := Int.mul_le_mul (by omega) a1 (by omega) (by decide)
  have e1 := i_mul (a := v) (b := w) rfl rfl (by omega) (by omega)
  have e2 : (v * w + x).toInt = v.toInt * w.toInt + x.toInt := by
    rw [ya (by rw [e1]; omega) (by rw [e1]; omega), e1]
  have e3 : ((24 : Int32) * v + x).toInt = 24 * v.toInt + x.toInt := by
    have y := i_mul (a := 24) (b := v) z_24 rfl (by omega) (by omega)
    rw [ya (by rw [y]; omega) (by rw [y]; omega), y]
  have n1 := nat_of (n := v * w + x) (Int32.le_iff_toInt_le.mpr (by rw [z_0, e2]; omega))
  have n2 := nat_of (n := (24 : Int32) * v + x) (Int32.le_iff_toInt_le.mpr (by rw [z_0, e3]; omega))
  have k1 : (((v * w + x).toNatClampNeg : Nat) : Int) = ((v.toNatClampNeg * w.toNatClampNeg + x.toNatClampNeg : Nat) : Int) := by
    rw [n1, e2, Int.natCast_add, Int.natCast_mul, nx, nv, na]
  exact ⟨Int.ofNat.inj k1, by omega, nx, nv⟩
theorem pp_upd {w h : Int32} {f g : Nat → Int32} {x v : Nat} {r : Int32} (hw : 1 ≤ w ∧ w ≤ 24) (hh : 1 ≤ h ∧ h ≤ 24) (hx : (x : Int) < w.toInt) (hv : (v : Int) < h.toInt) (hP : PP w h f g) : PP w h (upd f (v * w.toNatClampNeg + x) r) (upd g (24 * v + x) r) := by
  obtain ⟨a0, a1, na⟩ := pg_r hw
  obtain ⟨b0, b1, nb⟩ := pg_r hh
  constructor
  · intro x9 v9 hx9 hv9
    by_cases q : x9 = x ∧ v9 = v
    · rw [q.1, q.2, upd_c rfl, upd_c rfl]
    · have n1 : ¬ v9 * w.toNatClampNeg + x9 = v * w.toNatClampNeg + x := fun e => by
        obtain ⟨e1, e2⟩ := ix_inj (w := w.toNatClampNeg) (by omega) (by omega) e
        exact q ⟨e2, e1⟩
      have n2 : ¬ 24 * v9 + x9 = 24 * v + x := fun e => q ⟨by omega, by omega⟩
      rw [upd_n n1, upd_n n2]
      exact hP.1 x9 v9 hx9 hv9
  · intro x9 v9 hx9 hv9 ho
    have n2 : ¬ 24 * v9 + x9 = 24 * v + x := fun e => by
      have e1 : x9 = x := by omega
      have e2 : v9 = v := by omega
      rcases ho with ho | ho <;> omega
    rw [upd_n n2]
    exact hP.2 x9 v9 hx9 hv9 ho
theorem lighten_e {n : Nat} {d o : Nat → Int32} (hn : n ≤ 576) (h : f_Page_lighten n d = some o) : ∀ j : Nat, j < n → o j = 0 := by
  unfold f_Page_lighten at h
  have en : (Int32.ofNat n).toInt = (n : Int) := Int32.toInt_ofNat_of_lt (by omega)
  refine lp_one (F := f_Page_lighten_L2 n) (fun s => 0 ≤ s.1.toInt ∧ s.1.toInt ≤ (n : Int) ∧ ∀ j : Nat, (j : Int) < s.1.toInt → s.2 j = 0) (fun a => ∀ j : Nat, j < n → a j = 0) ?_ FU (0, d) ⟨p0_0, by show (0 : Int32).toInt ≤ (n : Int); rw [z_0]; omega, fun j hj => absurd hj (by show ¬ (j : Int) < (0 : Int32).toInt; rw [z_0]; omega)⟩ o h
  intro f hf s hI a ha
  obtain ⟨i, g⟩ := s
  obtain ⟨i0, i1, hg⟩ := hI
  dsimp only at i0 i1 hg
  unfold f_Page_lighten_L2 at ha
  dsimp only [nl] at ha
  by_cases c : Int32.ofNat n ≤ i
  · rw [if_pos c] at ha
    have q := t_le c
    rw [en] at q
    rw [← Option.some.inj ha]
    exact fun j hj => hg j (by omega)
  · rw [if_neg c] at ha
    have q := t_lt (Int32.not_le.mp c)
    rw [en] at q
    obtain ⟨_, ha⟩ := gq_e ha
    rw [nb0] at ha
    have ci := inc_i (k := i) (by omega) (by omega)
    exact hf (i + 1, upd g i.toNatClampNeg 0) ⟨by show 0 ≤ (i + 1).toInt; omega, by show (i + 1).toInt ≤ (n : Int); omega, zr_push i0 (by omega) hg⟩ a ha
theorem pp_0 {w h : Int32} {d f g : Nat → Int32} (hw : 1 ≤ w ∧ w ≤ 24) (hh : 1 ≤ h ∧ h ≤ 24) (hf : f_Page_lighten (w * h).toNatClampNeg d = some f) (hg : ∀ j : Nat, j < 576 → g j = 0) : PP w h f g := by
  obtain ⟨a0, a1, na⟩ := pg_r hw
  obtain ⟨b0, b1, nb⟩ := pg_r hh
  obtain ⟨e, l⟩ := wh_n hw hh
  rw [e] at hf
  have hz := lighten_e l hf
  refine ⟨fun x v hx hv => ?_, fun x v hx hv _ => hg _ (by omega)⟩
  have b : v * w.toNatClampNeg + x < h.toNatClampNeg * w.toNatClampNeg := by
    have q : (v + 1) * w.toNatClampNeg ≤ h.toNatClampNeg * w.toNatClampNeg := Nat.mul_le_mul_right _ (by omega)
    rw [Nat.add_mul, Nat.one_mul] at q
    omega
  rw [hz _ b, hg _ (by omega)]
theorem phas_e {w h x v r : Int32} (hw : 1 ≤ w ∧ w ≤ 24) (hh : 1 ≤ h ∧ h ≤ 24) (ha : f_Page_has w h x v = some r) : (r = 1 ∧ 0 ≤ x.toInt ∧ x.toInt < w.toInt ∧ 0 ≤ v.toInt ∧ v.toInt < h.toInt) ∨ r = 0 := by
  obtain ⟨a0, a1, na⟩ := pg_r hw
  obtain ⟨b0, b1, nb⟩ := pg_r hh
  unfold f_Page_has at ha
  obtain ⟨r1, h1, ha⟩ := bd_e ha
  by_cases c : r1 = 0
  · rw [if_pos c] at ha
    exact Or.inr (Option.some.inj ha).symm
  · rw [if_neg c] at ha
    obtain ⟨r2, h2, ha⟩ := bd_e ha
    by_cases c2 : r2 = 0
    · rw [if_pos c2] at ha
      exact Or.inr (Option.some.inj ha).symm
    · rw [if_neg c2] at ha
      rcases within_t (n := w) (by omega) (by omega) h1 with ⟨_, q0, q1⟩ | ⟨q, _⟩
      · rcases within_t (n := h) (by omega) (by omega) h2 with ⟨_, q2, q3⟩ | ⟨q, _⟩
        · exact Or.inl ⟨(Option.some.inj ha).symm, q0, q1, q2, q3⟩
        · exact absurd q c2
      · exact absurd q c
theorem at_TM {w h p1 p2 : Int32} {n : Nat} {out : Nat → Int64} {f g : Nat → Int32} {o : Int32 × (Nat → Int64)} {m : Int32 × Int32} (hw : 1 ≤ w ∧ w ≤ 24) (hh : 1 ≤ h ∧ h ≤ 24) (hP : PP w h f g) (ha : f_Law_at out w h n f p1 p2 = some o) (hb : f_Mo_at w h g p1 p2 = some m) : o.1 = m.2 ∧ (o.1 = 0 → o.2 ((0 : Int32)).toNatClampNeg = (if m.1 = 0 then 0 else 1)) := by
  unfold f_Law_at f_Top_at at ha
  unfold f_Mo_at at hb
  obtain ⟨x, hx, ha⟩ := bd_e ha
  obtain ⟨r, hr, hx⟩ := bd_e hx
  obtain ⟨s, hs, hb⟩ := bd_e hb
  rw [same_in] at hs
  dsimp only [jn] at hb
  have hr9 := hr
  unfold f_Page_has at hr9
  rw [hs] at hr9
  have hr9 : (if s = 0 then some (0 : Int32) else bd (f_Top_isWithin p2 (0 : Int32) (h - (1 : Int32))) fun r_2 => if r_2 = 0 then some (0 : Int32) else some (1 : Int32)) = some r := hr9
  have bad : r = 0 → some ((0 : Int32), (1 : Int32)) = some m → o.1 = m.2 ∧ (o.1 = 0 → o.2 ((0 : Int32)).toNatClampNeg = (if m.1 = 0 then 0 else 1)) := by
    intro er em
    rw [if_pos er] at hx
    have hx := Option.some.inj hx
    subst hx
    try dsimp only [nl] at ha
    first | rw [if_pos rfl] at ha | rw [if_pos trivial] at ha
    rw [← Option.some.inj ha, ← Option.some.inj em]
    exact ⟨rfl, fun z => by first | exact no1 z | exact no2 z | exact no3 z⟩
  by_cases c : s = 0
  · rw [if_pos c] at hb hr9
    first | rw [if_neg (by decide)] at hb | rw [if_neg id] at hb
    exact bad (Option.some.inj hr9).symm hb
  · rw [if_neg c] at hb hr9
    obtain ⟨s2, hs2, hb⟩ := bd_e hb
    rw [same_in] at hs2
    rw [hs2] at hr9
    have hr9 : (if s2 = 0 then some (0 : Int32) else some (1 : Int32)) = some r := hr9
    by_cases c2 : s2 = 0
    · rw [if_pos c2] at hb hr9
      first | rw [if_neg (by decide)] at hb | rw [if_neg id] at hb
      exact bad (Option.some.inj hr9).symm hb
    · rw [if_neg c2] at hb hr9
      first | rw [if_pos (by decide)] at hb | rw [if_pos trivial] at hb
      have er := (Option.some.inj hr9).symm
      rcases phas_e hw hh hr with ⟨_, x0, x1, v0, v1⟩ | q
      · rw [if_neg (by rw [er]; decide)] at hx
        obtain ⟨_, hx⟩ := gq_e hx
        obtain ⟨_, hx⟩ := bz_e hx
        have hx := Option.some.inj hx
        subst hx
        obtain ⟨_, hb⟩ := gq_e hb
        obtain ⟨k1, k2, nx, nv⟩ := pg_ix hw hh x0 x1 v0 v1
        have e := hP.1 p1.toNatClampNeg p2.toNatClampNeg (by omega) (by omega)
        rw [← k1, ← k2] at e
        dsimp only [jn] at ha
        by_cases c0 : g ((24 : Int32) * p2 + p1).toNatClampNeg = 0
        · rw [if_pos c0] at hb
          rw [if_pos (e.trans c0)] at ha
          obtain ⟨_, ha⟩ := gq_e ha
          rw [← Option.some.inj ha, ← Option.some.inj hb]
          refine ⟨rfl, fun _ => ?_⟩
          show vp_updL out ((0 : Int32)).toNatClampNeg 0 ((0 : Int32)).toNatClampNeg = 0
          exact out_0
        · rw [if_neg c0] at hb
          rw [if_neg (fun z => c0 (e.symm.trans z))] at ha
          obtain ⟨_, ha⟩ := gq_e ha
          rw [← Option.some.inj ha, ← Option.some.inj hb]
          refine ⟨rfl, fun _ => ?_⟩
          show vp_updL out ((0 : Int32)).toNatClampNeg 1 ((0 : Int32)).toNatClampNeg = 1
          exact out_0
      · rw [er] at q
        exact absurd q (by decide)
theorem hasb_e {L : Int64} {n r : Int32} {k : Nat} (h : n.toInt = (k : Int)) (hk : k < 64) (ha : f_Top_hasBit L n = some r) : (r = 1 ∧ L.toBitVec.getLsbD k = true) ∨ (r = 0 ∧ L.toBitVec.getLsbD k = false) := by
  unfold f_Top_hasBit at ha
  have e := ush_b h hk L
  have m1 : (1 : Int64).toBitVec = BitVec.twoPow 64 0 := by decide
  have b0 : (((L).toUInt64 >>> (((n).toInt64).toUInt64 &&& Int64.toUInt64 63)).toInt64).toBitVec.getLsbD 0 = L.toBitVec.getLsbD k := by
    rw [e, BitVec.getLsbD_ushiftRight, Nat.add_zero]
  by_cases c : lg_cmp ((((L).toUInt64 >>> (((n).toInt64).toUInt64 &&& Int64.toUInt64 63)).toInt64) &&& (1 : Int64)) (0 : Int64) = 0
  · rw [if_pos c] at ha
    have q := (tq_is (by decide) m1).mp (cmp_0.mp c)
    rw [b0] at q
    exact Or.inr ⟨(Option.some.inj ha).symm, q⟩
  · rw [if_neg c] at ha
    refine Or.inl ⟨(Option.some.inj ha).symm, ?_⟩
    cases q : L.toBitVec.getLsbD k
    · exact absurd (cmp_0.mpr ((tq_is (by decide) m1).mpr (b0.trans q))) c
    · rfl
theorem lay_M {v2 p0 v3 w h x : Int32} {wide xs ys ways page : Nat → Int32} {dark df : Nat → Int64} {k : (Nat → Int32) → Option (Nat → Int32)} {self : Int32 × (Nat → Int32) → Option (Nat → Int32)} {d : Nat → Int32} (hx : ¬ wide v2.toNatClampNeg ≤ x) (hb : f_Mo_lay_L22 v2 wide p0 xs ys v3 w h ways dark df k self (x, page) = some d) :
    ∃ r1, f_Page_has w h (xs p0.toNatClampNeg + x) (ys p0.toNatClampNeg + v3) = some r1 ∧ ((r1 = 0 ∧ self (x + 1, page) = some d) ∨ (r1 = 1 ∧ ∃ s r : Int32, s = (if (lg_cmp ((((dark (v2).toNatClampNeg) ^^^ (df (p0).toNatClampNeg)) >>> (((((8 : Int32) * v3) + x)).toInt64 &&& 63)) &&& (1 : Int64)) (1 : Int64)) = 0 then 1 else 0) ∧ f_Page_composed (page ((24 : Int32) * (ys p0.toNatClampNeg + v3) + (xs p0.toNatClampNeg + x)).toNatClampNeg) s (ways ((3 : Int32)).toNatClampNeg) = some r ∧ self (x + 1, upd page ((24 : Int32) * (ys p0.toNatClampNeg + v3) + (xs p0.toNatClampNeg + x)).toNatClampNeg (vp_nar .boolean r)) = some d)) := by
  unfold f_Mo_lay_L22 at hb
  dsimp only [nl] at hb
  obtain ⟨_, hb⟩ := gq_e hb
  rw [if_neg hx] at hb
  obtain ⟨_, hb⟩ := gq_e hb
  obtain ⟨_, hb⟩ := gq_e hb
  obtain ⟨r9, hr9, hb⟩ := bd_e hb
  obtain ⟨j246, e246, hb⟩ := jn_e hb
  rw [same_in] at hr9
  unfold f_Page_has
  rw [hr9]
  by_cases c : r9 = 0
  · rw [if_pos c] at hb
    rw [e246] at hb
    refine ⟨0, ?_, Or.inl ⟨rfl, hb⟩⟩
    show (if r9 = 0 then some (0 : Int32) else _) = some 0
    rw [if_pos c]
  · rw [if_neg c] at hb
    obtain ⟨r12, hr12, hb⟩ := bd_e hb
    rw [same_in] at hr12
    rw [hr12]
    by_cases c2 : r12 = 0
    · rw [if_pos c2] at hb
      rw [e246] at hb
      refine ⟨0, ?_, Or.inl ⟨rfl, hb⟩⟩
      show (if r9 = 0 then some (0 : Int32) else (if r12 = 0 then some (0 : Int32) else some 1)) = some 0
      rw [if_neg c, if_pos c2]
    · rw [if_neg c2] at hb
      refine ⟨1, ?_, Or.inr ⟨rfl, ?_⟩⟩
      · show (if r9 = 0 then some (0 : Int32) else (if r12 = 0 then some (0 : Int32) else some 1)) = some 1
        rw [if_neg c, if_neg c2]
      obtain ⟨_, hb⟩ := gq_e hb
      obtain ⟨_, hb⟩ := gq_e hb
      obtain ⟨j117, e117, hb⟩ := jn_e hb
      obtain ⟨s, hs, hs01, hb⟩ : ∃ s : Int32, s = (if (lg_cmp ((((dark (v2).toNatClampNeg) ^^^ (df (p0).toNatClampNeg)) >>> (((((8 : Int32) * v3) + x)).toInt64 &&& 63)) &&& (1 : Int64)) (1 : Int64)) = 0 then (1 : Int32) else 0) ∧ (s = 0 ∨ s = 1) ∧ j117 s = some d := by
        by_cases cc : (lg_cmp ((((dark (v2).toNatClampNeg) ^^^ (df (p0).toNatClampNeg)) >>> (((((8 : Int32) * v3) + x)).toInt64 &&& 63)) &&& (1 : Int64)) (1 : Int64)) = 0
        · rw [if_pos cc] at hb
          exact ⟨1, by rw [if_pos cc], Or.inr rfl, hb⟩
        · rw [if_neg cc] at hb
          exact ⟨0, by rw [if_neg cc], Or.inl rfl, hb⟩
      rw [e117] at hb
      dsimp only at hb
      obtain ⟨_, hb⟩ := gq_e hb
      obtain ⟨_, hb⟩ := gq_e hb
      obtain ⟨j245, e245, hb⟩ := jn_e hb
      have key : ∃ r, f_Page_composed (page ((24 : Int32) * (ys p0.toNatClampNeg + v3) + (xs p0.toNatClampNeg + x)).toNatClampNeg) s (ways ((3 : Int32)).toNatClampNeg) = some r ∧ j245 ((24 : Int32) * (ys p0.toNatClampNeg + v3) + (xs p0.toNatClampNeg + x)) r = some d := by
        clear e245
        unfold f_Page_composed
        by_cases c0 : ways ((3 : Int32)).toNatClampNeg = 0
        · rw [if_pos c0] at hb ⊢
          obtain ⟨j169, e169, hb⟩ := jn_e hb
          dsimp only [jn]
          by_cases ca : page ((24 : Int32) * (ys p0.toNatClampNeg + v3) + (xs p0.toNatClampNeg + x)).toNatClampNeg = 0
          · rw [if_pos ca] at hb ⊢
            by_cases cs : s = 0
            · rw [if_pos cs] at hb ⊢
              exact ⟨0, rfl, hb⟩
            · rw [if_neg cs] at hb ⊢
              rw [e169] at hb
              exact ⟨1, rfl, hb⟩
          · rw [if_neg ca] at hb ⊢
            rw [e169] at hb
            exact ⟨1, rfl, hb⟩
        · rw [if_neg c0] at hb ⊢
          by_cases c1 : ways ((3 : Int32)).toNatClampNeg = 1
          · rw [if_pos c1] at hb ⊢
            obtain ⟨j197, e197, hb⟩ := jn_e hb
            by_cases ca : page ((24 : Int32) * (ys p0.toNatClampNeg + v3) + (xs p0.toNatClampNeg + x)).toNatClampNeg = 0
            · rw [if_pos ca] at hb ⊢
              rw [e197] at hb
              exact ⟨0, rfl, hb⟩
            · rw [if_neg ca] at hb ⊢
              by_cases cs : s = 0
              · rw [if_pos cs] at hb ⊢
                rw [e197] at hb
                exact ⟨0, rfl, hb⟩
              · rw [if_neg cs] at hb ⊢
                exact ⟨1, rfl, hb⟩
          · rw [if_neg c1] at hb ⊢
            by_cases c2 : ways ((3 : Int32)).toNatClampNeg = 2
            · rw [if_pos c2] at hb ⊢
              by_cases ce : page ((24 : Int32) * (ys p0.toNatClampNeg + v3) + (xs p0.toNatClampNeg + x)).toNatClampNeg = s
              · rw [if_pos ce] at hb ⊢
                exact ⟨0, rfl, hb⟩
              · rw [if_neg ce] at hb ⊢
                exact ⟨1, rfl, hb⟩
            · rw [if_neg c2] at hb ⊢
              by_cases c3 : ways ((3 : Int32)).toNatClampNeg = 3
              · rw [if_pos c3] at hb ⊢
                by_cases ce : page ((24 : Int32) * (ys p0.toNatClampNeg + v3) + (xs p0.toNatClampNeg + x)).toNatClampNeg = s
                · rw [if_pos ce] at hb ⊢
                  exact ⟨1, rfl, hb⟩
                · rw [if_neg ce] at hb ⊢
                  exact ⟨0, rfl, hb⟩
              · rw [if_neg c3] at hb ⊢
                refine ⟨s, ?_, hb⟩
                unfold bz
                rw [if_pos hs01]
      obtain ⟨r, hr, hb⟩ := key
      rw [e245] at hb
      dsimp only at hb
      obtain ⟨_, hb⟩ := gq_e hb
      rw [e246] at hb
      exact ⟨s, r, hs, hr, hb⟩
set_option maxHeartbeats 1000000 in
theorem lay_TM {w h i : Int32} {n : Nat} {wi hi W W9 sO xs ys sO9 xs9 ys9 f g f1 g1 : Nat → Int32} {smp dk df df9 : Nat → Int64} (hw : 1 ≤ w ∧ w ≤ 24) (hh : 1 ≤ h ∧ h ≤ 24) (hwi : R wi 0 8) (hhi : R hi 0 8) (eW : W ((3 : Int32)).toNatClampNeg = W9 ((3 : Int32)).toNatClampNeg) (es : sO i.toNatClampNeg = sO9 i.toNatClampNeg) (ex : xs i.toNatClampNeg = xs9 i.toNatClampNeg) (ey : ys i.toNatClampNeg = ys9 i.toNatClampNeg)
    (hbit : ∀ x v : Nat, x < (wi (sO9 i.toNatClampNeg).toNatClampNeg).toNatClampNeg → v < (hi (sO9 i.toNatClampNeg).toNatClampNeg).toNatClampNeg → (smp (sO9 i.toNatClampNeg).toNatClampNeg ^^^ df i.toNatClampNeg).toBitVec.getLsbD (v * (wi (sO9 i.toNatClampNeg).toNatClampNeg).toNatClampNeg + x) = (dk (sO9 i.toNatClampNeg).toNatClampNeg ^^^ df9 i.toNatClampNeg).toBitVec.getLsbD (8 * v + x))
    (hP : PP w h f g) (ha : f_Page_lay w h sO smp df hi wi xs ys W n f i = some f1) (hb : f_Mo_lay w h sO9 hi wi xs9 ys9 dk df9 g W9 i = some g1) : PP w h f1 g1 := by
  unfold f_Page_lay at ha
  unfold f_Mo_lay at hb
  dsimp only [nl] at ha hb
  obtain ⟨_, ha⟩ := gq_e ha
  obtain ⟨_, ha⟩ := gq_e ha
  obtain ⟨_, ha⟩ := gq_e ha
  obtain ⟨_, hb⟩ := gq_e hb
  rw [es] at ha
  refine lp_two (fun s t => s.1 = t.1 ∧ 0 ≤ t.1.toInt ∧ PP w h s.2 t.2) (fun a d => PP w h a d) ?_ FU FU (0, f) (0, g) ⟨rfl, p0_0, hP⟩ f1 g1 ha hb
  intro F G hFG s t hI a d ha hb
  obtain ⟨y, u⟩ := s
  obtain ⟨y9, v⟩ := t
  obtain ⟨e, y0, hQ⟩ := hI
  dsimp only at e y0 hQ
  subst e
  unfold f_Page_lay_L32 at ha
  unfold f_Mo_lay_L9 at hb
  dsimp only [nl] at ha hb
  obtain ⟨_, ha⟩ := gq_e ha
  obtain ⟨_, hb⟩ := gq_e hb
  have hr := int_e (hhi (sO9 i.toNatClampNeg).toNatClampNeg)
  rw [z_0, z_8] at hr
  by_cases c : hi (sO9 i.toNatClampNeg).toNatClampNeg ≤ y
  · rw [if_pos c] at ha hb
    rw [← Option.some.inj ha, ← Option.some.inj hb]
    exact hQ
  · rw [if_neg c] at ha hb
    have yl := t_lt (Int32.not_le.mp c)
    have cy := inc_i (k := y) (by omega) (by omega)
    refine lp_two (fun s t => s.1 = t.1 ∧ 0 ≤ t.1.toInt ∧ PP w h s.2 t.2) (fun a d => PP w h a d) ?_ FU FU (0, u) (0, v) ⟨rfl, p0_0, hQ⟩ a d ha hb
    intro F1 G1 hFG1 s t hI a d ha hb
    obtain ⟨x, u⟩ := s
    obtain ⟨x9, v⟩ := t
    obtain ⟨e, x0, hQ⟩ := hI
    dsimp only at e x0 hQ
    subst e
    have wr := int_e (hwi (sO9 i.toNatClampNeg).toNatClampNeg)
    rw [z_0, z_8] at wr
    by_cases c : wi (sO9 i.toNatClampNeg).toNatClampNeg ≤ x
    · unfold f_Page_lay_L47 at ha
      unfold f_Mo_lay_L22 at hb
      dsimp only [nl] at ha hb
      obtain ⟨_, ha⟩ := gq_e ha
      obtain ⟨_, hb⟩ := gq_e hb
      rw [if_pos c] at ha hb
      exact hFG (y + 1, u) (y + 1, v) ⟨rfl, by show 0 ≤ (y + 1).toInt; omega, hQ⟩ a d ha hb
    · have xl := t_lt (Int32.not_le.mp c)
      have cx := inc_i (k := x) (by omega) (by omega)
      obtain ⟨r1, hr1, hb⟩ := lay_M c hb
      unfold f_Page_lay_L47 at ha
      dsimp only [nl] at ha
      obtain ⟨_, ha⟩ := gq_e ha
      rw [if_neg c] at ha
      obtain ⟨r8, hr8, ha⟩ := bd_e ha
      unfold f_Dictionary_sampleNumber at hr8
      obtain ⟨_, hr8⟩ := gq_e hr8
      have hr8 := Option.some.inj hr8
      obtain ⟨rb, hrb, ha⟩ := bd_e ha
      obtain ⟨_, ha⟩ := gq_e ha
      obtain ⟨_, ha⟩ := gq_e ha
      obtain ⟨_, ha⟩ := gq_e ha
      rw [ex, ey, eW] at ha
      obtain ⟨u1, hu1, ha⟩ := bd_e ha
      unfold f_Page_laySample at hu1
      rw [hr1] at hu1
      obtain ⟨k1, j1, k2, j2, xw, vh, w8, h8⟩ := bit_pos (hwi (sO9 i.toNatClampNeg).toNatClampNeg) (hhi (sO9 i.toNatClampNeg).toNatClampNeg) x0 xl y0 yl
      have bt := hbit x.toNatClampNeg y.toNatClampNeg xw vh
      rcases hb with ⟨er, hb⟩ | ⟨er, s, r, hs, hr, hb⟩
      · have hu1 : (if r1 = 0 then some u else _) = some u1 := hu1
        rw [if_pos er] at hu1
        have hu1 := Option.some.inj hu1
        subst hu1
        exact hFG1 (x + 1, u) (x + 1, v) ⟨rfl, by show 0 ≤ (x + 1).toInt; omega, hQ⟩ a d ha hb
      · rcases phas_e hw hh hr1 with ⟨_, px0, px1, pv0, pv1⟩ | q
        · have hu1 : (if r1 = 0 then some u else _) = some u1 := hu1
          rw [if_neg (by rw [er]; decide)] at hu1
          obtain ⟨_, hu1⟩ := gq_e hu1
          obtain ⟨r2, hr2, hu1⟩ := bd_e hu1
          obtain ⟨_, hu1⟩ := gq_e hu1
          have hu1 := Option.some.inj hu1
          subst hu1
          obtain ⟨i1, i2, nx, nv⟩ := pg_ix hw hh px0 px1 pv0 pv1
          have ev := hQ.1 (xs9 i.toNatClampNeg + x).toNatClampNeg (ys9 i.toNatClampNeg + y).toNatClampNeg (by omega) (by omega)
          rw [← i1, ← i2] at ev
          have eb : rb = s := by
            rw [hs]
            rw [← hr8] at hrb
            rcases hasb_e k1 j1 hrb with ⟨e1, b1⟩ | ⟨e1, b1⟩
            · rw [if_pos ((sbit k2 j2).mpr (bt.symm.trans b1)), e1]
            · rw [if_neg (fun z => by have q := (sbit k2 j2).mp z; rw [← bt, b1] at q; exact absurd q (by decide)), e1]
          rw [eb, ev] at hr2
          have e2 := Option.some.inj (hr2.symm.trans hr)
          subst e2
          refine hFG1 (x + 1, upd u ((ys9 i.toNatClampNeg + y) * w + (xs9 i.toNatClampNeg + x)).toNatClampNeg (vp_nar .boolean r2)) (x + 1, upd v ((24 : Int32) * (ys9 i.toNatClampNeg + y) + (xs9 i.toNatClampNeg + x)).toNatClampNeg (vp_nar .boolean r2)) ⟨rfl, by show 0 ≤ (x + 1).toInt; omega, ?_⟩ a d ha hb
          show PP w h (upd u ((ys9 i.toNatClampNeg + y) * w + (xs9 i.toNatClampNeg + x)).toNatClampNeg (vp_nar .boolean r2)) (upd v ((24 : Int32) * (ys9 i.toNatClampNeg + y) + (xs9 i.toNatClampNeg + x)).toNatClampNeg (vp_nar .boolean r2))
          rw [i1, i2]
          exact pp_upd hw hh (by omega) (by omega) hQ
        · rw [er] at q
          exact absurd q (by decide)
/-- how many of n samples from a on are dark -/
def cnD (f : Nat → Int32) (a : Nat) : Nat → Nat
  | 0 => 0
  | n + 1 => cnD f a n + (if f (a + n) = 0 then 0 else 1)
theorem cnD_add (f : Nat → Int32) (a n : Nat) : ∀ m : Nat, cnD f a (n + m) = cnD f a n + cnD f (a + n) m := by
  intro m
  induction m with
  | zero => rfl
  | succ m ih =>
    show cnD f a (n + m) + (if f (a + (n + m)) = 0 then 0 else 1) = cnD f a n + (cnD f (a + n) m + (if f (a + n + m) = 0 then 0 else 1))
    rw [ih, Nat.add_assoc, Nat.add_assoc]
theorem cnD_eq {f g : Nat → Int32} {a b : Nat} : ∀ n : Nat, (∀ j : Nat, j < n → f (a + j) = g (b + j)) → cnD f a n = cnD g b n := by
  intro n
  induction n with
  | zero => intro _; rfl
  | succ n ih =>
    intro h
    show cnD f a n + (if f (a + n) = 0 then 0 else 1) = cnD g b n + (if g (b + n) = 0 then 0 else 1)
    rw [ih (fun j hj => h j (by omega)), h n (by omega)]
theorem cnD_0 {f : Nat → Int32} {a : Nat} : ∀ n : Nat, (∀ j : Nat, j < n → f (a + j) = 0) → cnD f a n = 0 := by
  intro n
  induction n with
  | zero => intro _; rfl
  | succ n ih =>
    intro h
    show cnD f a n + (if f (a + n) = 0 then 0 else 1) = 0
    rw [ih (fun j hj => h j (by omega)), h n (by omega), if_pos rfl]
theorem cnD_le (f : Nat → Int32) (a : Nat) : ∀ n : Nat, cnD f a n ≤ n := by
  intro n
  induction n with
  | zero => exact Nat.le_refl 0
  | succ n ih =>
    show cnD f a n + (if f (a + n) = 0 then 0 else 1) ≤ n + 1
    split <;> omega
theorem cn_page {w h : Int32} {f g : Nat → Int32} (hw : 1 ≤ w ∧ w ≤ 24) (hh : 1 ≤ h ∧ h ≤ 24) (hP : PP w h f g) : cnD f 0 (h.toNatClampNeg * w.toNatClampNeg) = cnD g 0 576 := by
  obtain ⟨a0, a1, na⟩ := pg_r hw
  obtain ⟨b0, b1, nb⟩ := pg_r hh
  have row : ∀ v : Nat, v ≤ h.toNatClampNeg → cnD f 0 (v * w.toNatClampNeg) = cnD g 0 (24 * v) := by
    intro v
    induction v with
    | zero => intro _; rw [Nat.zero_mul]; rfl
    | succ v ih =>
      intro hv
      rw [Nat.add_mul, Nat.one_mul, cnD_add, ih (by omega), Nat.zero_add]
      have e : 24 * (v + 1) = 24 * v + (w.toNatClampNeg + (24 - w.toNatClampNeg)) := by omega
      rw [e, cnD_add g 0, cnD_add g (0 + 24 * v), Nat.zero_add]
      have e1 : cnD f (v * w.toNatClampNeg) w.toNatClampNeg = cnD g (24 * v) w.toNatClampNeg := cnD_eq _ (fun j hj => hP.1 j v (by omega) (by omega))
      have e2 : cnD g (24 * v + w.toNatClampNeg) (24 - w.toNatClampNeg) = 0 := cnD_0 _ (fun j hj => by
        rw [Nat.add_assoc]
        exact hP.2 (w.toNatClampNeg + j) v (by omega) (by omega) (Or.inl (by omega)))
      rw [e1, e2, Nat.add_zero]
  have e : 576 = 24 * h.toNatClampNeg + (576 - 24 * h.toNatClampNeg) := by omega
  rw [row _ (Nat.le_refl _), e, cnD_add g 0, Nat.zero_add]
  have e2 : cnD g (24 * h.toNatClampNeg) (576 - 24 * h.toNatClampNeg) = 0 := cnD_0 _ (fun j hj => by
    have q : 24 * h.toNatClampNeg + j = 24 * (h.toNatClampNeg + j / 24) + j % 24 := by omega
    rw [q]
    exact hP.2 (j % 24) (h.toNatClampNeg + j / 24) (by omega) (by omega) (Or.inr (by omega)))
  rw [e2, Nat.add_zero]
theorem countT {n : Nat} {f : Nat → Int32} {r : Int32} (hn : n ≤ 576) (h : f_Page_countDark n f = some r) : r = Int32.ofNat (cnD f 0 n) := by
  unfold f_Page_countDark at h
  have en : (Int32.ofNat n).toInt = (n : Int) := Int32.toInt_ofNat_of_lt (by omega)
  refine lp_one (F := f_Page_countDark_L4 n f) (fun s => 0 ≤ s.1.toInt ∧ s.1.toInt ≤ (n : Int) ∧ s.2 = Int32.ofNat (cnD f 0 s.1.toNatClampNeg)) (fun a => a = Int32.ofNat (cnD f 0 n)) ?_ FU (0, 0) ⟨p0_0, by show (0 : Int32).toInt ≤ (n : Int); rw [z_0]; omega, rfl⟩ r h
  intro F hF s hI a ha
  obtain ⟨i, c⟩ := s
  obtain ⟨i0, i1, hc⟩ := hI
  dsimp only at i0 i1 hc
  have nn := nat_of (n := i) (Int32.le_iff_toInt_le.mpr (by rw [z_0]; exact i0))
  unfold f_Page_countDark_L4 at ha
  dsimp only [nl, jn] at ha
  by_cases q : Int32.ofNat n ≤ i
  · rw [if_pos q] at ha
    have q9 := t_le q
    rw [en] at q9
    have e : i.toNatClampNeg = n := by omega
    rw [← Option.some.inj ha, hc, e]
  · rw [if_neg q] at ha
    have q9 := t_lt (Int32.not_le.mp q)
    rw [en] at q9
    obtain ⟨_, ha⟩ := gq_e ha
    have ci := inc_i (k := i) (by omega) (by omega)
    have ni := nat_of (n := i + 1) (Int32.le_iff_toInt_le.mpr (by rw [z_0]; omega))
    have e : (i + 1).toNatClampNeg = i.toNatClampNeg + 1 := by omega
    have st : cnD f 0 (i + 1).toNatClampNeg = cnD f 0 i.toNatClampNeg + (if f i.toNatClampNeg = 0 then 0 else 1) := by
      rw [e]
      show cnD f 0 i.toNatClampNeg + (if f (0 + i.toNatClampNeg) = 0 then 0 else 1) = _
      rw [Nat.zero_add]
    by_cases z : f i.toNatClampNeg = 0
    · rw [if_pos z] at ha st
      exact hF (i + 1, c + 0) ⟨by show 0 ≤ (i + 1).toInt; omega, by show (i + 1).toInt ≤ (n : Int); omega, by show c + 0 = Int32.ofNat (cnD f 0 (i + 1).toNatClampNeg); rw [st, hc, Int32.add_zero, Nat.add_zero]⟩ a ha
    · rw [if_neg z] at ha st
      exact hF (i + 1, c + 1) ⟨by show 0 ≤ (i + 1).toInt; omega, by show (i + 1).toInt ≤ (n : Int); omega, by show c + 1 = Int32.ofNat (cnD f 0 (i + 1).toNatClampNeg); rw [st, hc, of_1]⟩ a ha
theorem countM {g ord : Nat → Int32} {m : Int32 × Int32 × (Nat → Int32) × (Nat → Int32)} (h : lp (f_Mo_compose_L61 g ord) FU (0, 0) = some m) : m = (Int32.ofNat (cnD g 0 576), 0, g, ord) := by
  refine lp_one (F := f_Mo_compose_L61 g ord) (fun s => 0 ≤ s.1.toInt ∧ s.1.toInt ≤ 576 ∧ s.2 = Int32.ofNat (cnD g 0 s.1.toNatClampNeg)) (fun a => a = (Int32.ofNat (cnD g 0 576), 0, g, ord)) ?_ FU (0, 0) ⟨p0_0, i0_l (by decide), rfl⟩ m h
  intro F hF s hI a ha
  obtain ⟨i, c⟩ := s
  obtain ⟨i0, i1, hc⟩ := hI
  dsimp only at i0 i1 hc
  have nn := nat_of (n := i) (Int32.le_iff_toInt_le.mpr (by rw [z_0]; exact i0))
  unfold f_Mo_compose_L61 at ha
  dsimp only [nl, jn] at ha
  by_cases q : (576 : Int32) ≤ i
  · rw [if_pos q] at ha
    have q9 := t_le q
    rw [z_576] at q9
    have e : i.toNatClampNeg = 576 := by omega
    rw [← Option.some.inj ha, hc, e]
  · rw [if_neg q] at ha
    have q9 := t_lt (Int32.not_le.mp q)
    rw [z_576] at q9
    obtain ⟨_, ha⟩ := gq_e ha
    have ci := inc_i (k := i) (by omega) (by omega)
    have ni := nat_of (n := i + 1) (Int32.le_iff_toInt_le.mpr (by rw [z_0]; omega))
    have e : (i + 1).toNatClampNeg = i.toNatClampNeg + 1 := by omega
    have st : cnD g 0 (i + 1).toNatClampNeg = cnD g 0 i.toNatClampNeg + (if g i.toNatClampNeg = 0 then 0 else 1) := by
      rw [e]
      show cnD g 0 i.toNatClampNeg + (if g (0 + i.toNatClampNeg) = 0 then 0 else 1) = _
      rw [Nat.zero_add]
    by_cases z : g i.toNatClampNeg = 0
    · rw [if_pos z] at ha st
      exact hF (i + 1, c) ⟨by show 0 ≤ (i + 1).toInt; omega, by show (i + 1).toInt ≤ 576; omega, by show c = Int32.ofNat (cnD g 0 (i + 1).toNatClampNeg); rw [st, hc, Nat.add_zero]⟩ a ha
    · rw [if_neg z] at ha st
      exact hF (i + 1, c + 1) ⟨by show 0 ≤ (i + 1).toInt; omega, by show (i + 1).toInt ≤ 576; omega, by show c + 1 = Int32.ofNat (cnD g 0 (i + 1).toNatClampNeg); rw [st, hc, of_1]⟩ a ha
theorem zero_M {g : Nat → Int32} {k : (Nat → Int32) → Option (Int32 × Int32 × (Nat → Int32) × (Nat → Int32))} {d : Int32 × Int32 × (Nat → Int32) × (Nat → Int32)} (h : lp (f_Mo_compose_L7 k) FU (0, g) = some d) : ∃ g0, k g0 = some d ∧ ∀ j : Nat, j < 576 → g0 j = 0 := by
  refine lp_one (F := f_Mo_compose_L7 k) (fun s => 0 ≤ s.1.toInt ∧ s.1.toInt ≤ 576 ∧ ∀ j : Nat, (j : Int) < s.1.toInt → s.2 j = 0) (fun a => ∃ g0, k g0 = some a ∧ ∀ j : Nat, j < 576 → g0 j = 0) ?_ FU (0, g) ⟨p0_0, i0_l (by decide), fun j hj => absurd hj (by show ¬ (j : Int) < (0 : Int32).toInt; rw [z_0]; omega)⟩ d h
  intro f hf s hI a ha
  obtain ⟨i, u⟩ := s
  obtain ⟨i0, i1, hg⟩ := hI
  dsimp only at i0 i1 hg
  unfold f_Mo_compose_L7 at ha
  dsimp only [nl] at ha
  by_cases c : (576 : Int32) ≤ i
  · rw [if_pos c] at ha
    have q := t_le c
    rw [z_576] at q
    exact ⟨u, ha, fun j hj => hg j (by omega)⟩
  · rw [if_neg c] at ha
    have q := t_lt (Int32.not_le.mp c)
    rw [z_576] at q
    obtain ⟨_, ha⟩ := gq_e ha
    rw [nb0] at ha
    have ci := inc_i (k := i) (by omega) (by omega)
    exact hf (i + 1, upd u i.toNatClampNeg 0) ⟨by show 0 ≤ (i + 1).toInt; omega, by show (i + 1).toInt ≤ 576; omega, zr_push i0 (by omega) hg⟩ a ha
theorem bit_x (a b : Int64) (j : Nat) : (a ^^^ b).toBitVec.getLsbD j = (a.toBitVec.getLsbD j ^^ b.toBitVec.getLsbD j) := by
  show (a.toBitVec ^^^ b.toBitVec).getLsbD j = _
  rw [BitVec.getLsbD_xor]
theorem comp_TM {w h n dc : Int32} {wi hi W W9 seq sO xs ys sO9 xs9 ys9 ord f g : Nat → Int32} {smp dk df df9 : Nat → Int64} {o : Int32 × (Nat → Int32) × (Nat → Int32)} {m : Int32 × Int32 × (Nat → Int32) × (Nat → Int32)} (hw : 1 ≤ w ∧ w ≤ 24) (hh : 1 ≤ h ∧ h ≤ 24) (hwi : R wi 0 8) (hhi : R hi 0 8) (hL : LR n dc wi hi W sO xs ys df W9 sO9 xs9 ys9 df9) (hs : SR wi smp dk) (hd : dc.toInt ≤ 16)
    (ha : f_Top_compose n W ys sO hi xs wi seq w h (w * h).toNatClampNeg f smp df = some o) (hb : f_Mo_compose w h n g ord W9 ys9 hi sO9 xs9 wi dk df9 = some m) : o.1 = m.1 ∧ PP w h o.2.2 m.2.2.1 := by
  have n0 := hL.1
  have n40 := hL.2.1
  have n00 : (0 : Int32) ≤ n := Int32.le_iff_toInt_le.mpr (by rw [z_0]; exact n0)
  have n11 : n ≤ 40 := Int32.le_iff_toInt_le.mpr (by rw [z_40]; exact n40)
  obtain ⟨ewh, lwh⟩ := wh_n hw hh
  unfold f_Top_compose at ha
  unfold f_Mo_compose at hb
  obtain ⟨sq, hsq, ha⟩ := bd_e ha
  obtain ⟨f0, hf0, ha⟩ := bd_e ha
  obtain ⟨g0, hb, hg0⟩ := zero_M hb
  obtain ⟨od, hod, hb⟩ := bd_e hb
  have hE := arrange2 n00 n11 hL.2.2.1 hL.2.2.2.1 hL.2.2.2.2.1 hL.2.2.2.2.2.1 hsq hod
  refine lp_two (fun s t => s.1 = t.1 ∧ 0 ≤ t.1.toInt ∧ PP w h s.2 t.2) (fun o m => o.1 = m.1 ∧ PP w h o.2.2 m.2.2.1) ?_ FU FU (0, f0) (0, g0) ⟨rfl, p0_0, pp_0 hw hh hf0 hg0⟩ o m ha hb
  intro F G hFG s t hI a d ha hb
  obtain ⟨i, u⟩ := s
  obtain ⟨i9, v⟩ := t
  obtain ⟨e, i0, hQ⟩ := hI
  dsimp only at e i0 hQ
  subst e
  unfold f_Top_compose_L16 at ha
  unfold f_Mo_compose_L33 at hb
  dsimp only [nl] at ha hb
  by_cases c : n ≤ i
  · rw [if_pos c] at ha hb
    obtain ⟨r, hr, ha⟩ := bd_e ha
    rw [ewh] at hr
    have e1 := countT lwh hr
    have e2 := countM hb
    subst e2
    rw [← Option.some.inj ha]
    refine ⟨?_, hQ⟩
    show r = Int32.ofNat (cnD v 0 576)
    rw [e1, cn_page hw hh hQ]
  · rw [if_neg c] at ha hb
    have q := t_lt (Int32.not_le.mp c)
    obtain ⟨_, ha⟩ := gq_e ha
    obtain ⟨_, hb⟩ := gq_e hb
    obtain ⟨u1, hu1, ha⟩ := bd_e ha
    obtain ⟨v1, hv1, hb⟩ := bd_e hb
    have ni := nat_of (n := i) (Int32.le_iff_toInt_le.mpr (by rw [z_0]; exact i0))
    have ee := hE i.toNatClampNeg (by omega)
    rw [ee.1] at hu1
    have p0 := ee.2.1
    have p1 := ee.2.2
    have np := nat_of (n := od i.toNatClampNeg) (Int32.le_iff_toInt_le.mpr (by rw [z_0]; exact p0))
    have hS := hL.2.2.2.2.2.2.2 (od i.toNatClampNeg).toNatClampNeg (by omega)
    have hX := hL.2.2.2.2.2.2.1 (od i.toNatClampNeg).toNatClampNeg (by omega)
    have nS := nat_of (n := sO9 (od i.toNatClampNeg).toNatClampNeg) (Int32.le_iff_toInt_le.mpr (by rw [z_0]; exact hS.1))
    have hr8 := int_e (hhi (sO9 (od i.toNatClampNeg).toNatClampNeg).toNatClampNeg)
    rw [z_0, z_8] at hr8
    have nh := nat_of (n := hi (sO9 (od i.toNatClampNeg).toNatClampNeg).toNatClampNeg) (hhi _).1
    have hQ1 := lay_TM hw hh hwi hhi (wy_e hL.2.2.1).2.2.2.1 (px_at hL.2.2.2.1 p0 p1) (px_at hL.2.2.2.2.1 p0 p1) (px_at hL.2.2.2.2.2.1 p0 p1) (fun x v hx hv => by
      rw [bit_x, bit_x, hs (sO9 (od i.toNatClampNeg).toNatClampNeg).toNatClampNeg (by omega) x v hx (by omega), hX.1 x v hx hv]) hQ hu1 hv1
    have ci := inc_i (k := i) (by omega) (by omega)
    exact hFG (i + 1, u1) (i + 1, v1) ⟨rfl, by show 0 ≤ (i + 1).toInt; omega, hQ1⟩ a d ha hb
