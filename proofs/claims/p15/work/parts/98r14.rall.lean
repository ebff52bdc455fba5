/-! DRAFT: reading the instances, in step -/
theorem p2_0 : 0 ≤ (2 : Int32).toInt := by decide
theorem n2_0 : ¬ (2 : Int32) = 0 := by decide
theorem g_17 (v : Int32) : v - 16 = -17 + (v + 1) := by grind
theorem g_s1 (s v : Int32) : s + 1 + v = s + (v + 1) := by grind
theorem bits_k {n p r k : Int32} {cb : Nat → Int32} {o : Int32 × Int32 × Int32} (h : ¬ r = 0) (ha : f_BitReader_nextBits p r n cb k = some o) : p = o.2.1 ∧ r = o.2.2 := by
  have key : ∀ (N : Nat) (i w : Int32) (o : Int32 × Int32 × Int32), lp (f_BitReader_nextBits_L4 k n cb) N (i, w, p, r) = some o → p = o.2.1 ∧ r = o.2.2 := by
    intro N
    induction N with
    | zero => intro i w o q; exact absurd q (by simp [lp])
    | succ N ih =>
      intro i w o q
      obtain ⟨gx, egx, q⟩ := lp_x q
      unfold f_BitReader_nextBits_L4 at q
      dsimp only at q
      by_cases c : k ≤ i
      · rw [if_pos c] at q
        rw [← Option.some.inj q]
        exact ⟨rfl, rfl⟩
      · rw [if_neg c] at q
        obtain ⟨x, hx, q⟩ := bd_e q
        have := next_k h hx
        subst this
        rw [egx] at q
        exact ih _ _ _ q
  unfold f_BitReader_nextBits at ha
  exact key FU _ _ _ ha
theorem number_k {n p r : Int32} {cb : Nat → Int32} {o : Int32 × Int32 × Int32} (h : ¬ r = 0) (ha : f_BitReader_nextNumber p r n cb = some o) : o = (0, p, r) := by
  unfold f_BitReader_nextNumber at ha
  exact num_k FU _ _ _ _ h ha
theorem nameF_k {n p r dc : Int32} {cb row : Nat → Int32} {o : Int32 × Int32 × Int32 × (Nat → Int32)} (h : ¬ r = 0) (ha : f_FrontNames_readName p r n cb dc row = some o) : p = o.2.1 ∧ r = o.2.2.1 := by
  unfold f_FrontNames_readName at ha
  obtain ⟨x, hx, ha⟩ := bd_e ha
  have := number_k h hx
  subst this
  dsimp only at ha
  obtain ⟨z, hz, ha⟩ := bd_e ha
  have := isr1 h hz
  subst this
  first | rw [if_neg (by decide)] at ha | rw [if_neg id] at ha
  rw [← Option.some.inj ha]
  exact ⟨rfl, rfl⟩
theorem nameC_k {n p r dc : Int32} {cb le cd : Nat → Int32} {o : Int32 × Int32 × Int32} (h : ¬ r = 0) (ha : f_CodeNames_readName p r dc le n cb cd = some o) : p = o.2.1 ∧ r = o.2.2 := by
  unfold f_CodeNames_readName at ha
  refine lp_one (fun (_ : Int32 × Int32) => True) (fun (o : Int32 × Int32 × Int32) => p = o.2.1 ∧ r = o.2.2) ?_ FU _ trivial o ha
  intro f hf t _ a ha
  obtain ⟨i, l⟩ := t
  unfold f_CodeNames_readName_L4 at ha
  simp only [nl] at ha
  by_cases c : dc ≤ i
  · rw [if_pos c] at ha
    refine lp_one (fun (t : Int32 × Int32 × Int32 × Int32) => p = t.2.2.1 ∧ r = t.2.2.2) (fun (o : Int32 × Int32 × Int32) => p = o.2.1 ∧ r = o.2.2) ?_ FU _ ⟨rfl, rfl⟩ a ha
    intro f1 hf1 t hI a ha
    obtain ⟨i1, v, q, u⟩ := t
    dsimp only at hI
    obtain ⟨e1, e2⟩ := hI
    subst e1 e2
    unfold f_CodeNames_readName_L37 at ha
    simp only [nl] at ha
    by_cases c2 : l < i1
    · rw [if_pos c2] at ha
      obtain ⟨z, hz, ha⟩ := bd_e ha
      have := ref_k h hz
      subst this
      rw [← Option.some.inj ha]
      exact ⟨rfl, rfl⟩
    · rw [if_neg c2] at ha
      obtain ⟨z, hz, ha⟩ := bd_e ha
      have := next_k h hz
      subst this
      dsimp only at ha
      obtain ⟨z, hz, ha⟩ := bd_e ha
      by_cases c3 : z = -1
      · rw [if_pos c3] at ha
        exact hf1 _ ⟨rfl, rfl⟩ a ha
      · rw [if_neg c3] at ha
        rw [← Option.some.inj ha]
        exact ⟨rfl, rfl⟩
  · rw [if_neg c] at ha
    obtain ⟨_, ha⟩ := gq_e ha
    exact hf _ trivial a ha
/-- the reference's loops over strips and instances, as terms of their own -/
def L118 (N n : Int32) (i9 : Nat → Int32) (kind dc : Int32) (RW0 : Nat → Int32) (r5 r8 r11 r14 : Int32) (le cd w h : Nat → Int32) (k317 : Int32 → Int32 → Int32 → (Nat → Int32) → (Nat → Int32) → (Nat → Int32) → (Nat → Int32) → (Nat → Int64) → Option (Int32 × Int32 × Int32 × (Nat → Int32) × (Nat → Int32) × (Nat → Int32) × (Nat → Int32) × (Nat → Int32) × (Nat → Int32) × (Nat → Int32) × (Nat → Int64))) := f_Mo_readAll_L118 N n i9 kind dc RW0 r5 r8 r11 r14 le cd w h k317
def L187 (N n : Int32) (i9 : Nat → Int32) (kind dc : Int32) (RW0 : Nat → Int32) (r5 r8 r11 r14 : Int32) (le cd w h : Nat → Int32) (k317 : Int32 → Int32 → Int32 → (Nat → Int32) → (Nat → Int32) → (Nat → Int32) → (Nat → Int32) → (Nat → Int64) → Option (Int32 × Int32 × Int32 × (Nat → Int32) × (Nat → Int32) × (Nat → Int32) × (Nat → Int32) × (Nat → Int32) × (Nat → Int32) × (Nat → Int32) × (Nat → Int64))) (M : Nat) (fs st : Int32) := f_Mo_readAll_L187 kind dc n RW0 r5 r8 r11 r14 i9 le cd w h st N
    (fun (mo_at_61 : Int32) (mo_refused_62 : Int32) (mo_readMany_63 : Int32) (mo_row_64 : (Nat → Int32)) (mo_readSymbol_65 : (Nat → Int32)) (mo_readX_66 : (Nat → Int32)) (mo_readY_67 : (Nat → Int32)) (mo_readDiffers_68 : (Nat → Int64)) =>
      lp (L118 N n i9 kind dc RW0 r5 r8 r11 r14 le cd w h k317) M ((0 : Int32), fs, st, mo_at_61, mo_refused_62, mo_readMany_63, mo_row_64, mo_readSymbol_65, mo_readX_66, mo_readY_67, mo_readDiffers_68))
/-- .. behind an instance that another follows -/
def MID (N n : Int32) (i9 : Nat → Int32) (kind dc : Int32) (RW0 : Nat → Int32) (r5 r8 r11 r14 : Int32) (le cd w h : Nat → Int32) (k317 : Int32 → Int32 → Int32 → (Nat → Int32) → (Nat → Int32) → (Nat → Int32) → (Nat → Int32) → (Nat → Int64) → Option (Int32 × Int32 × Int32 × (Nat → Int32) × (Nat → Int32) × (Nat → Int32) × (Nat → Int32) × (Nat → Int32) × (Nat → Int32) × (Nat → Int32) × (Nat → Int64))) (m M : Nat) (fs st s p i : Int32) (row9 rS rX rY : Nat → Int32) (rD : Nat → Int64) : Option (Int32 × Int32 × Int32 × (Nat → Int32) × (Nat → Int32) × (Nat → Int32) × (Nat → Int32) × (Nat → Int32) × (Nat → Int32) × (Nat → Int32) × (Nat → Int64)) :=
  if i = N then
    bd (f_Mo_refuse 0 (2 : Int32)) fun mo_refused_90 =>
    (if (0 : Int32) = 0 then
      lp (L187 N n i9 kind dc RW0 r5 r8 r11 r14 le cd w h k317 M fs st) m ((0 : Int32), s, p, mo_refused_90, i, row9, rS, rX, rY, rD)
    else
      gq (i - (1 : Int32)) 40 <|
      nl (rS ((i - (1 : Int32))).toNatClampNeg) fun v8_82 =>
      gq (1 : Int32) 4 <|
      jn (fun (s_83 : Int32) (s_84 : Int32) =>
          bd (f_Mo_nextSigned n p mo_refused_90 i9) fun (r_85, mo_at_86, mo_refused_87) =>
          nl ((s_83 + s_84) + r_85) fun v6_88 =>
          jn (fun (s_89 : Int32) =>
              lp (L187 N n i9 kind dc RW0 r5 r8 r11 r14 le cd w h k317 M fs st) m (s_89, v6_88, mo_at_86, mo_refused_87, i, row9, rS, rX, rY, rD)) fun j309 =>
          if mo_refused_87 = 0 then
            j309 (1 : Int32)
          else
            j309 (0 : Int32)) fun j289 =>
      if ((upd (upd (upd (upd RW0 ((2 : Int32)).toNatClampNeg r5) ((1 : Int32)).toNatClampNeg r8) ((0 : Int32)).toNatClampNeg r11) ((3 : Int32)).toNatClampNeg r14) ((1 : Int32)).toNatClampNeg) = (1 : Int32) then
        gq v8_82 16 <|
        j289 s (h (v8_82).toNatClampNeg)
      else
        gq v8_82 16 <|
        j289 s (w (v8_82).toNatClampNeg))
  else
    (if (1 : Int32) = 0 then
      lp (L187 N n i9 kind dc RW0 r5 r8 r11 r14 le cd w h k317 M fs st) m ((1 : Int32), s, p, 0, i, row9, rS, rX, rY, rD)
    else
      gq (i - (1 : Int32)) 40 <|
      nl (rS ((i - (1 : Int32))).toNatClampNeg) fun v8_82 =>
      gq (1 : Int32) 4 <|
      jn (fun (s_83 : Int32) (s_84 : Int32) =>
          bd (f_Mo_nextSigned n p 0 i9) fun (r_85, mo_at_86, mo_refused_87) =>
          nl ((s_83 + s_84) + r_85) fun v6_88 =>
          jn (fun (s_89 : Int32) =>
              lp (L187 N n i9 kind dc RW0 r5 r8 r11 r14 le cd w h k317 M fs st) m (s_89, v6_88, mo_at_86, mo_refused_87, i, row9, rS, rX, rY, rD)) fun j309 =>
          if mo_refused_87 = 0 then
            j309 (1 : Int32)
          else
            j309 (0 : Int32)) fun j289 =>
      if ((upd (upd (upd (upd RW0 ((2 : Int32)).toNatClampNeg r5) ((1 : Int32)).toNatClampNeg r8) ((0 : Int32)).toNatClampNeg r11) ((3 : Int32)).toNatClampNeg r14) ((1 : Int32)).toNatClampNeg) = (1 : Int32) then
        gq v8_82 16 <|
        j289 s (h (v8_82).toNatClampNeg)
      else
        gq v8_82 16 <|
        j289 s (w (v8_82).toNatClampNeg))
theorem placed_k_C {cnt p r n dc s st : Int32} {W cb leC cdC w h sO xs ys : Nat → Int32} {df : Nat → Int64} {o : Int32 × Int32 × Int32 × (Nat → Int32) × (Nat → Int32) × (Nat → Int32) × (Nat → Int64)} (hr : ¬ r = 0) (ha : f_Reader_readPlaced_C cnt W p r n cb dc leC cdC w h sO xs ys df s st = some o) : p = o.2.1 ∧ r = o.2.2.1 := by
  unfold f_Reader_readPlaced_C at ha
  obtain ⟨_, ha⟩ := gq_e ha
  simp only [nl] at ha
  obtain ⟨x, hx, ha⟩ := bd_e ha
  obtain ⟨x1, x2, x3⟩ := x
  obtain ⟨e1, e2⟩ := bits_k hr hx
  dsimp only at e1 e2 ha
  subst e1 e2
  obtain ⟨x, hx, ha⟩ := bd_e ha
  obtain ⟨x4, x5, x6⟩ := x
  obtain ⟨e1, e2⟩ := nameC_k hr hx
  dsimp only at e1 e2 ha
  subst e1 e2
  obtain ⟨z, hz, ha⟩ := bd_e ha
  have := isr1 hr hz
  subst this
  first | rw [if_neg (by decide)] at ha | rw [if_neg id] at ha
  rw [← Option.some.inj ha]
  exact ⟨rfl, rfl⟩
/-- the class's loop over instances -/
def L12C (N : Int32) (W : Nat → Int32) (n : Int32) (cb : Nat → Int32) (dc : Int32) (leC cdC : Nat → Int32) (w h : Nat → Int32) := f_Reader_readInstances_C_L12 N W n cb dc leC cdC w h
    (fun (v5_13 : Int32) (la_count_14 : Int32) (rd_place_15 : Int32) (rd_refusal_16 : Int32) (la_symbolOf_18 : (Nat → Int32)) (la_xs_19 : (Nat → Int32)) (la_ys_20 : (Nat → Int32)) (la_differs_21 : (Nat → Int64)) =>
      if v5_13 = 0 then
        some (la_count_14, rd_place_15, rd_refusal_16, la_symbolOf_18, la_xs_19, la_ys_20, la_differs_21)
      else
        bd (f_BitReader_refuse rd_refusal_16 (2 : Int32)) fun rd_refusal_57 =>
        some (la_count_14, rd_place_15, rd_refusal_57, la_symbolOf_18, la_xs_19, la_ys_20, la_differs_21))
def RQC (n dc : Int32) (w h : Nat → Int32) (k317 : Int32 → Int32 → Int32 → (Nat → Int32) → (Nat → Int32) → (Nat → Int32) → (Nat → Int32) → (Nat → Int64) → Option (Int32 × Int32 × Int32 × (Nat → Int32) × (Nat → Int32) × (Nat → Int32) × (Nat → Int32) × (Nat → Int32) × (Nat → Int32) × (Nat → Int32) × (Nat → Int64))) (a : Int32 × Int32 × Int32 × (Nat → Int32) × (Nat → Int32) × (Nat → Int32) × (Nat → Int64)) (d : Int32 × Int32 × Int32 × (Nat → Int32) × (Nat → Int32) × (Nat → Int32) × (Nat → Int32) × (Nat → Int32) × (Nat → Int32) × (Nat → Int32) × (Nat → Int64)) : Prop :=
  ∃ (many : Int32) (row9 rS rX rY : Nat → Int32) (rD : Nat → Int64), k317 a.2.1 a.2.2.1 many row9 rS rX rY rD = some d ∧ RP n a.2.1 a.2.2.1 ∧ (a.2.2.1 = 0 → a.1 = many ∧ 0 ≤ many.toInt ∧ many.toInt ≤ 40 ∧ LI many dc w h a.2.2.2.1 a.2.2.2.2.1 a.2.2.2.2.2.1 a.2.2.2.2.2.2 rS rX rY rD)
/-- a refused class reads no more -/
theorem l12_k_C {N n dc i go fs st cnt p r : Int32} {W cb leC cdC w h sO xs ys : Nat → Int32} {df : Nat → Int64} {a : Int32 × Int32 × Int32 × (Nat → Int32) × (Nat → Int32) × (Nat → Int32) × (Nat → Int64)} {f : Nat} (hr : ¬ r = 0) (hg : go = 0) (ha : lp (L12C N W n cb dc leC cdC w h) f (i, go, fs, st, cnt, p, r, sO, xs, ys, df) = some a) : a.2.1 = p ∧ a.2.2.1 = r := by
  cases f with
  | zero => exact absurd ha (by simp [lp])
  | succ f =>
    obtain ⟨gf, egf, ha⟩ := lp_x ha
    unfold L12C f_Reader_readInstances_C_L12 at ha
    dsimp only at ha
    rw [if_pos hg] at ha
    by_cases c : N ≤ i
    · rw [if_pos c] at ha
      rw [← Option.some.inj ha]
      exact ⟨rfl, rfl⟩
    · rw [if_neg c] at ha
      obtain ⟨z, hz, ha⟩ := bd_e ha
      have := isr1 hr hz
      subst this
      first | rw [if_neg (by decide)] at ha | rw [if_neg id] at ha
      rw [← Option.some.inj ha]
      exact ⟨rfl, rfl⟩
set_option maxRecDepth 4000 in
set_option maxHeartbeats 8000000 in
theorem rins_C {n dc N r5 r8 r11 r14 : Int32} {cb i9 W RW0 w h le cd leC cdC : Nat → Int32} {k317 : Int32 → Int32 → Int32 → (Nat → Int32) → (Nat → Int32) → (Nat → Int32) → (Nat → Int32) → (Nat → Int64) → Option (Int32 × Int32 × Int32 × (Nat → Int32) × (Nat → Int32) × (Nat → Int32) × (Nat → Int32) × (Nat → Int32) × (Nat → Int32) × (Nat → Int32) × (Nat → Int64))} (hB : RB n cb i9) (hw : R w 0 8) (hh : R h 0 8) (hW : WY W (upd (upd (upd (upd RW0 ((2 : Int32)).toNatClampNeg r5) ((1 : Int32)).toNatClampNeg r8) ((0 : Int32)).toNatClampNeg r11) ((3 : Int32)).toNatClampNeg r14)) (hd : dc.toInt ≤ 16) (N0 : 0 ≤ N.toInt) (N1 : N.toInt ≤ 40) (hN : 1 ≤ N.toInt → NRC n dc cb i9 leC cdC le cd) :
    ∀ (f : Nat),
      (∀ (i fs st p fi st9 : Int32) (row9 sO xs ys rS rX rY : Nat → Int32) (df rD : Nat → Int64) (M : Nat) (a : Int32 × Int32 × Int32 × (Nat → Int32) × (Nat → Int32) × (Nat → Int32) × (Nat → Int64)) (d : Int32 × Int32 × Int32 × (Nat → Int32) × (Nat → Int32) × (Nat → Int32) × (Nat → Int32) × (Nat → Int32) × (Nat → Int32) × (Nat → Int32) × (Nat → Int64)), 0 ≤ i.toInt → i.toInt ≤ N.toInt → RP n p 0 → LI i dc w h sO xs ys df rS rX rY rD → ((i = 0 ∧ fi = 1 ∧ st = -17) ∨ (fi = 0 ∧ st9 = st)) →
        lp (L12C N W n cb dc leC cdC w h) f (i, 0, fs, st, i, p, 0, sO, xs, ys, df) = some a → lp (L118 N n i9 0 dc RW0 r5 r8 r11 r14 le cd w h k317) M (fi, fs, st9, p, 0, i, row9, rS, rX, rY, rD) = some d → RQC n dc w h k317 a d) ∧
      (∀ (i fs st s p : Int32) (row9 sO xs ys rS rX rY : Nat → Int32) (df rD : Nat → Int64) (m M : Nat) (a : Int32 × Int32 × Int32 × (Nat → Int32) × (Nat → Int32) × (Nat → Int32) × (Nat → Int64)) (d : Int32 × Int32 × Int32 × (Nat → Int32) × (Nat → Int32) × (Nat → Int32) × (Nat → Int32) × (Nat → Int32) × (Nat → Int32) × (Nat → Int32) × (Nat → Int64)), 1 ≤ i.toInt → i.toInt ≤ N.toInt → RP n p 0 → LI i dc w h sO xs ys df rS rX rY rD → (∀ u, f_Layout_nextS sO W xs w ys h (i - 1) = some u → u = s + (if (upd (upd (upd (upd RW0 ((2 : Int32)).toNatClampNeg r5) ((1 : Int32)).toNatClampNeg r8) ((0 : Int32)).toNatClampNeg r11) ((3 : Int32)).toNatClampNeg r14) ((1 : Int32)).toNatClampNeg = 1 then h (rS (i - 1).toNatClampNeg).toNatClampNeg else w (rS (i - 1).toNatClampNeg).toNatClampNeg)) →
        lp (L12C N W n cb dc leC cdC w h) f (i, 1, fs, st, i, p, 0, sO, xs, ys, df) = some a → MID N n i9 0 dc RW0 r5 r8 r11 r14 le cd w h k317 m M fs st s p i row9 rS rX rY rD = some d → RQC n dc w h k317 a d) := by
  obtain ⟨w0, w1, w2, w3, wb⟩ := wy_e hW
  intro f
  induction f with
  | zero =>
    refine ⟨?_, ?_⟩
    · intro i fs st p fi st9 row9 sO xs ys rS rX rY df rD M a d i0 i1 hP hL  hst ha
      exact absurd ha (by simp [lp])
    · intro i fs st s p row9 sO xs ys rS rX rY df rD m M a d i0 i1 hP hL  hnx ha
      exact absurd ha (by simp [lp])
  | succ f ih =>
    obtain ⟨ihA, ihB⟩ := ih
    -- the reference, refused: it comes to its end
    have rend : ∀ (fi fs st p r i : Int32) (row9 rS rX rY : Nat → Int32) (rD : Nat → Int64) (M : Nat) (d : Int32 × Int32 × Int32 × (Nat → Int32) × (Nat → Int32) × (Nat → Int32) × (Nat → Int32) × (Nat → Int32) × (Nat → Int32) × (Nat → Int32) × (Nat → Int64)), ¬ r = 0 → lp (L118 N n i9 0 dc RW0 r5 r8 r11 r14 le cd w h k317) M (fi, fs, st, p, r, i, row9, rS, rX, rY, rD) = some d → k317 p r i row9 rS rX rY rD = some d := by
      intro fi fs st p r i row9 rS rX rY rD M d hr hb
      cases M with
      | zero => exact absurd hb (by simp [lp])
      | succ M =>
        obtain ⟨gm, egm, hb⟩ := lp_x hb
        unfold L118 f_Mo_readAll_L118 at hb
        dsimp only at hb
        rw [if_neg hr] at hb
        exact hb
    have rend2 : ∀ (fs st s p r i : Int32) (row9 rS rX rY : Nat → Int32) (rD : Nat → Int64) (m M : Nat) (d : Int32 × Int32 × Int32 × (Nat → Int32) × (Nat → Int32) × (Nat → Int32) × (Nat → Int32) × (Nat → Int32) × (Nat → Int32) × (Nat → Int32) × (Nat → Int64)), lp (L187 N n i9 0 dc RW0 r5 r8 r11 r14 le cd w h k317 M fs st) m (0, s, p, r, i, row9, rS, rX, rY, rD) = some d → lp (L118 N n i9 0 dc RW0 r5 r8 r11 r14 le cd w h k317) M (0, fs, st, p, r, i, row9, rS, rX, rY, rD) = some d := by
      intro fs st s p r i row9 rS rX rY rD m M d hb
      cases m with
      | zero => exact absurd hb (by simp [lp])
      | succ m =>
        obtain ⟨gm, egm, hb⟩ := lp_x hb
        unfold L187 f_Mo_readAll_L187 at hb
        dsimp only at hb
        first | rw [if_pos rfl] at hb | rw [if_pos trivial] at hb
        exact hb
    -- an instance, and what follows
    have inst : ∀ (i fs st s p : Int32) (row9 sO xs ys rS rX rY : Nat → Int32) (df rD : Nat → Int64) (m M : Nat) (a : Int32 × Int32 × Int32 × (Nat → Int32) × (Nat → Int32) × (Nat → Int32) × (Nat → Int64)) (d : Int32 × Int32 × Int32 × (Nat → Int32) × (Nat → Int32) × (Nat → Int32) × (Nat → Int32) × (Nat → Int32) × (Nat → Int32) × (Nat → Int32) × (Nat → Int64)), 0 ≤ i.toInt → i.toInt < N.toInt → RP n p 0 → LI i dc w h sO xs ys df rS rX rY rD → 
        (bd (f_Reader_readPlaced_C i W p 0 n cb dc leC cdC w h sO xs ys df s st) fun (la_count_28, rd_place_29, rd_refusal_30, la_symbolOf_32, la_xs_33, la_ys_34, la_differs_35) =>
          bd (f_Reader_readDiffers la_count_28 rd_place_29 rd_refusal_30 n cb la_symbolOf_32 w h la_differs_35) fun (rd_place_36, rd_refusal_37, la_differs_38) =>
          bd (f_BitReader_nextBit rd_place_36 rd_refusal_37 n cb) fun (r_39, rd_place_40, rd_refusal_41) =>
          if r_39 = (1 : Int32) then
            lp (L12C N W n cb dc leC cdC w h) f (i + 1, 1, fs, st, la_count_28, rd_place_40, rd_refusal_41, la_symbolOf_32, la_xs_33, la_ys_34, la_differs_38)
          else
            lp (L12C N W n cb dc leC cdC w h) f (i + 1, 0, fs, st, la_count_28, rd_place_40, rd_refusal_41, la_symbolOf_32, la_xs_33, la_ys_34, la_differs_38)) = some a →
        lp (L187 N n i9 0 dc RW0 r5 r8 r11 r14 le cd w h k317 M fs st) m (1, s, p, 0, i, row9, rS, rX, rY, rD) = some d → RQC n dc w h k317 a d := by
      intro i fs st s p row9 sO xs ys rS rX rY df rD m M a d i0 i1 hP hL  ha hb
      have ii := inc_i (k := i) (by omega) (by omega)
      cases m with
      | zero => exact absurd hb (by simp [lp])
      | succ m =>
        obtain ⟨gm, egm, hb⟩ := lp_x hb
        unfold L187 f_Mo_readAll_L187 at hb
        subst egm
        dsimp only at hb
        first | rw [if_neg (by decide)] at hb | rw [if_neg id] at hb
        obtain ⟨y, hy, hb⟩ := bd_e hb
        obtain ⟨y1, y2, y3, y4, y5, y6, y7, y8⟩ := y
        obtain ⟨x, hx1, ha⟩ := bd_e ha
        obtain ⟨c1, p1, q1, sO1, xs1, ys1, df1⟩ := x
        dsimp only at ha hb
        obtain ⟨x, hx2, ha⟩ := bd_e ha
        obtain ⟨p2, q2, df2⟩ := x
        dsimp only at ha
        obtain ⟨hS, hv⟩ := inst2_C hB hP rfl hw hh hW i0 (by omega) hL hd (hN (by omega)) hx1 hx2 hy
        have hS9 := hS
        obtain ⟨e1, e2, hP2, _, _⟩ := hS
        subst e1 e2
        obtain ⟨x, hx3, ha⟩ := bd_e ha
        obtain ⟨b1, p3, q3⟩ := x
        dsimp only at ha
        obtain ⟨j219, ej219, hb⟩ := jn_e hb
        obtain ⟨j218, ej218, hb⟩ := jn_e hb
        -- more is 0: the strip ends
        have stop : ∀ (pp qq : Int32), j219 0 pp qq = some d → lp (L118 N n i9 0 dc RW0 r5 r8 r11 r14 le cd w h k317) M (0, fs, st, pp, qq, y3, y4, y5, y6, y7, y8) = some d := by
          intro pp qq hb
          rw [ej219] at hb
          dsimp only [jn] at hb
          first | rw [if_pos rfl] at hb | rw [if_pos trivial] at hb
          first | rw [if_pos rfl] at hb | rw [if_pos trivial] at hb
          exact rend2 _ _ _ _ _ _ _ _ _ _ _ m M d hb
        by_cases c : y2 = 0
        · obtain ⟨ec, em, hL1, hRR, hNX⟩ := hv c
          subst ec em c
          first | rw [if_pos rfl] at hb | rw [if_pos trivial] at hb
          obtain ⟨z, hz, hb⟩ := bd_e hb
          obtain ⟨b9, p9, q9⟩ := z
          obtain ⟨hS3, e3, e4, e5⟩ := next_S hB hP2 hx3 hz
          have hS39 := hS3
          obtain ⟨e6, e7, hP3, _, _⟩ := hS3
          subst e3 e6 e7
          dsimp only at hb
          by_cases c2 : b9 = 1
          · rw [if_pos c2] at ha hb
            have q0 : q9 = 0 := by
              by_cases z : q9 = 0
              · exact z
              · have := e5 z
                rw [c2] at this
                exact absurd this (by decide)
            subst q0
            rw [ej219] at hb
            dsimp only [jn] at hb
            first | rw [if_neg (by decide)] at hb | rw [if_neg id] at hb
            refine ihB (i + 1) fs st s p9  y4 sO1 xs1 ys1 y5 y6 y7 df2 y8 m M a d (by omega) (by omega) hP3 hL1  ?_ ha hb
            intro u hu
            rw [Int32.add_sub_cancel] at hu ⊢
            exact hNX u hu
          · rw [if_neg c2] at ha hb
            rw [ej218] at hb
            have hb := stop _ _ hb
            by_cases c3 : q9 = 0
            · subst c3
              exact ihA (i + 1) fs st p9 0 st  y4 sO1 xs1 ys1 y5 y6 y7 df2 y8 M a d (by omega) (by omega) hP3 hL1  (Or.inr ⟨rfl, rfl⟩) ha hb
            · obtain ⟨g1, g2⟩ := l12_k_C c3 rfl ha
              have hb := rend _ _ _ _ _ _ _ _ _ _ _ M d c3 hb
              refine ⟨_, _, _, _, _, _, by rw [g1, g2]; exact hb, by rw [g1, g2]; exact hP3, fun z => absurd (by rw [← g2]; exact z) c3⟩
        · rw [if_neg c] at hb
          rw [ej218] at hb
          have hb := stop _ _ hb
          have hb := rend _ _ _ _ _ _ _ _ _ _ _ M d c hb
          have nk := next_k c hx3
          simp only [Prod.mk.injEq] at nk
          obtain ⟨g3, g4, g5⟩ := nk
          rw [g3, g4, g5] at ha
          first | rw [if_neg (by decide)] at ha | rw [if_neg id] at ha
          obtain ⟨g1, g2⟩ := l12_k_C c rfl ha
          refine ⟨_, _, _, _, _, _, by rw [g1, g2]; exact hb, by rw [g1, g2]; exact hP2, fun z => absurd (by rw [← g2]; exact z) c⟩
    -- a reader refused before an instance
    have refd : ∀ (i fs st s p r : Int32) (row9 sO xs ys rS rX rY : Nat → Int32) (df rD : Nat → Int64) (M : Nat) (a : Int32 × Int32 × Int32 × (Nat → Int32) × (Nat → Int32) × (Nat → Int32) × (Nat → Int64)) (d : Int32 × Int32 × Int32 × (Nat → Int32) × (Nat → Int32) × (Nat → Int32) × (Nat → Int32) × (Nat → Int32) × (Nat → Int32) × (Nat → Int32) × (Nat → Int64)), RP n p r → ¬ r = 0 →
        (bd (f_Reader_readPlaced_C i W p r n cb dc leC cdC w h sO xs ys df s st) fun (la_count_28, rd_place_29, rd_refusal_30, la_symbolOf_32, la_xs_33, la_ys_34, la_differs_35) =>
          bd (f_Reader_readDiffers la_count_28 rd_place_29 rd_refusal_30 n cb la_symbolOf_32 w h la_differs_35) fun (rd_place_36, rd_refusal_37, la_differs_38) =>
          bd (f_BitReader_nextBit rd_place_36 rd_refusal_37 n cb) fun (r_39, rd_place_40, rd_refusal_41) =>
          if r_39 = (1 : Int32) then
            lp (L12C N W n cb dc leC cdC w h) f (i + 1, 1, fs, st, la_count_28, rd_place_40, rd_refusal_41, la_symbolOf_32, la_xs_33, la_ys_34, la_differs_38)
          else
            lp (L12C N W n cb dc leC cdC w h) f (i + 1, 0, fs, st, la_count_28, rd_place_40, rd_refusal_41, la_symbolOf_32, la_xs_33, la_ys_34, la_differs_38)) = some a →
        k317 p r i row9 rS rX rY rD = some d → RQC n dc w h k317 a d := by
      intro i fs st s p r row9 sO xs ys rS rX rY df rD M a d hP hr ha hb
      obtain ⟨x, hx1, ha⟩ := bd_e ha
      obtain ⟨c1, p1, q1, sO1, xs1, ys1, df1⟩ := x
      obtain ⟨e1, e2⟩ := placed_k_C hr hx1
      dsimp only at e1 e2 ha
      subst e1 e2
      obtain ⟨x, hx2, ha⟩ := bd_e ha
      obtain ⟨p2, q2, df2⟩ := x
      obtain ⟨e1, e2⟩ := diff_k hr hx2
      dsimp only at ha
      replace e1 := e1.symm
      replace e2 := e2.symm
      subst e1 e2
      obtain ⟨x, hx3, ha⟩ := bd_e ha
      have := next_k hr hx3
      subst this
      dsimp only at ha
      first | rw [if_neg (by decide)] at ha | rw [if_neg id] at ha
      obtain ⟨g1, g2⟩ := l12_k_C hr rfl ha
      refine ⟨_, _, _, _, _, _, by rw [g1, g2]; exact hb, by rw [g1, g2]; exact hP, fun z => absurd (by rw [← g2]; exact z) hr⟩
    refine ⟨?_, ?_⟩
    · intro i fs st p fi st9 row9 sO xs ys rS rX rY df rD M a d i0 i1 hP hL  hst ha hb
      obtain ⟨gf, egf, ha⟩ := lp_x ha
      unfold L12C f_Reader_readInstances_C_L12 at ha
      subst egf
      dsimp only at ha
      cases M with
      | zero => exact absurd hb (by simp [lp])
      | succ M =>
        obtain ⟨gm, egm, hb⟩ := lp_x hb
        unfold L118 f_Mo_readAll_L118 at hb
        subst egm
        dsimp only at hb
        first | rw [if_pos rfl] at hb | rw [if_pos trivial] at hb
        by_cases c : N ≤ i
        · rw [if_pos c] at ha hb
          first | rw [if_pos rfl] at ha | rw [if_pos trivial] at ha
          have c9 := t_le c
          have ha := Option.some.inj ha
          subst ha
          exact ⟨_, _, _, _, _, _, hb, hP, fun _ => ⟨rfl, i0, by omega, hL⟩⟩
        · rw [if_neg c] at ha hb
          have c9 := t_lt (Int32.not_le.mp c)
          obtain ⟨z, hz, ha⟩ := bd_e ha
          have := isr0 rfl hz
          subst this
          first | rw [if_pos rfl] at ha | rw [if_pos trivial] at ha
          dsimp only [jn, nl] at ha hb
          first | rw [if_pos rfl] at ha | rw [if_pos trivial] at ha
          obtain ⟨x, hx, ha⟩ := bd_e ha
          obtain ⟨y, hy, hb⟩ := bd_e hb
          obtain ⟨x1, x2, x3⟩ := x
          obtain ⟨y1, y2, y3⟩ := y
          obtain ⟨hS, hv⟩ := num2 hB hP hx hy
          have hS9 := hS
          obtain ⟨e1, e2, hP1, _, _⟩ := hS
          subst e1 e2
          dsimp only at ha hb
          obtain ⟨x, hx, ha⟩ := bd_e ha
          have hb : ∃ S : Int32, (y3 = 0 → S = st + (x1 + 1)) ∧ (bd (f_Mo_nextSigned n y2 y3 i9) fun (r_46, mo_at_47, mo_refused_48) =>
              if mo_refused_48 = 0 then
                lp (L187 N n i9 0 dc RW0 r5 r8 r11 r14 le cd w h k317 M (fs + r_46) S) FU (1, fs + r_46, mo_at_47, mo_refused_48, i, row9, rS, rX, rY, rD)
              else
                lp (L187 N n i9 0 dc RW0 r5 r8 r11 r14 le cd w h k317 M (fs + r_46) S) FU (0, fs + r_46, mo_at_47, mo_refused_48, i, row9, rS, rX, rY, rD)) = some d := by
            rcases hst with ⟨q1, q2, q3⟩ | ⟨q1, q2⟩
            · subst q2
              first | rw [if_neg (by decide)] at hb | rw [if_neg id] at hb
              refine ⟨y1 - 16, fun z => ?_, hb⟩
              rw [q3, hv z]
              exact g_17 _
            · subst q1 q2
              first | rw [if_pos rfl] at hb | rw [if_pos trivial] at hb
              refine ⟨st9 + 1 + y1, fun z => ?_, hb⟩
              rw [hv z]
              exact g_s1 _ _
          obtain ⟨S, eS, hb⟩ := hb
          obtain ⟨y, hy2, hb⟩ := bd_e hb
          obtain ⟨x4, x5, x6⟩ := x
          obtain ⟨y4, y5, y6⟩ := y
          obtain ⟨hS2, hv2⟩ := signed2 hB hP1 hx hy2
          have hS29 := hS2
          obtain ⟨e1, e2, hP2, _, hm2⟩ := hS2
          subst e1 e2
          dsimp only at ha hb
          by_cases c2 : y6 = 0
          · have e3 := hv2 c2
            have e4 := eS (hm2 c2)
            subst e3 e4 c2
            first | rw [if_pos rfl] at hb | rw [if_pos trivial] at hb
            exact inst i (fs + y4) _ (fs + y4) y5  row9 sO xs ys rS rX rY df rD FU M a d i0 c9 hP2 hL  ha hb
          · rw [if_neg c2] at hb
            have hb := rend2 _ _ _ _ _ _ _ _ _ _ _ FU M d hb
            have hb := rend _ _ _ _ _ _ _ _ _ _ _ M d c2 hb
            exact refd i _ _ _ y5 y6  row9 sO xs ys rS rX rY df rD M a d hP2 c2 ha hb
    · intro i fs st s p row9 sO xs ys rS rX rY df rD m M a d i0 i1 hP hL  hnx ha hb
      obtain ⟨gf, egf, ha⟩ := lp_x ha
      unfold L12C f_Reader_readInstances_C_L12 at ha
      subst egf
      dsimp only at ha
      unfold MID at hb
      by_cases c : N ≤ i
      · have c9 := t_le c
        have ei : i = N := Int32.toInt_inj.mp (by omega)
        rw [if_pos c, if_neg (by decide)] at ha
        rw [if_pos ei] at hb
        obtain ⟨u, hu, ha⟩ := bd_e ha
        obtain ⟨v, hv, hb⟩ := bd_e hb
        have e1 := ref_0 rfl hu
        have e2 := refM_0 rfl hv
        subst e1 e2
        have ha := Option.some.inj ha
        subst ha
        first | rw [if_pos rfl] at hb | rw [if_pos trivial] at hb
        have hb := rend2 _ _ _ _ _ _ _ _ _ _ _ m M d hb
        have hb := rend _ _ _ _ _ _ _ _ _ _ _ M d (by decide) hb
        exact ⟨_, _, _, _, _, _, hb, ⟨hP.1, hP.2.1, p2_0⟩, fun z => absurd z n2_0⟩
      · have c9 := t_lt (Int32.not_le.mp c)
        have ne : ¬ i = N := fun z => by rw [z] at c9; omega
        rw [if_neg c] at ha
        rw [if_neg ne, if_neg (by decide)] at hb
        obtain ⟨z, hz, ha⟩ := bd_e ha
        have := isr0 rfl hz
        subst this
        first | rw [if_pos rfl] at ha | rw [if_pos trivial] at ha
        dsimp only [jn, nl] at ha hb
        first | rw [if_neg (by decide)] at ha | rw [if_neg id] at ha
        obtain ⟨u, hu, ha⟩ := bd_e ha
        have eu := hnx u hu
        obtain ⟨x, hx, ha⟩ := bd_e ha
        obtain ⟨_, hb⟩ := gq_e hb
        obtain ⟨_, hb⟩ := gq_e hb
        have hb : (bd (f_Mo_nextSigned n p 0 i9) fun (r_85, mo_at_86, mo_refused_87) =>
            if mo_refused_87 = 0 then
              lp (L187 N n i9 0 dc RW0 r5 r8 r11 r14 le cd w h k317 M fs st) m (1, u + r_85, mo_at_86, mo_refused_87, i, row9, rS, rX, rY, rD)
            else
              lp (L187 N n i9 0 dc RW0 r5 r8 r11 r14 le cd w h k317 M fs st) m (0, u + r_85, mo_at_86, mo_refused_87, i, row9, rS, rX, rY, rD)) = some d := by
          rw [eu]
          by_cases q : (upd (upd (upd (upd RW0 ((2 : Int32)).toNatClampNeg r5) ((1 : Int32)).toNatClampNeg r8) ((0 : Int32)).toNatClampNeg r11) ((3 : Int32)).toNatClampNeg r14) ((1 : Int32)).toNatClampNeg = 1
          · rw [if_pos q] at hb ⊢
            obtain ⟨_, hb⟩ := gq_e hb
            exact hb
          · rw [if_neg q] at hb ⊢
            obtain ⟨_, hb⟩ := gq_e hb
            exact hb
        obtain ⟨y, hy2, hb⟩ := bd_e hb
        obtain ⟨x4, x5, x6⟩ := x
        obtain ⟨y4, y5, y6⟩ := y
        obtain ⟨hS2, hv2⟩ := signed2 hB hP hx hy2
        have hS29 := hS2
        obtain ⟨e1, e2, hP2, _, hm2⟩ := hS2
        subst e1 e2
        dsimp only at ha hb
        by_cases c2 : y6 = 0
        · have e3 := hv2 c2
          subst e3 c2
          first | rw [if_pos rfl] at hb | rw [if_pos trivial] at hb
          exact inst i fs st _ y5  row9 sO xs ys rS rX rY df rD m M a d (by omega) c9 hP2 hL  ha hb
        · rw [if_neg c2] at hb
          have hb := rend2 _ _ _ _ _ _ _ _ _ _ _ m M d hb
          have hb := rend _ _ _ _ _ _ _ _ _ _ _ M d c2 hb
          exact refd i _ _ _ y5 y6  row9 sO xs ys rS rX rY df rD M a d hP2 c2 ha hb
theorem placed_k_F {cnt p r n dc s st : Int32} {W cb row w h sO xs ys : Nat → Int32} {df : Nat → Int64} {o : Int32 × Int32 × Int32 × (Nat → Int32) × (Nat → Int32) × (Nat → Int32) × (Nat → Int32) × (Nat → Int64)} (hr : ¬ r = 0) (ha : f_Reader_readPlaced_F cnt W p r n cb dc row w h sO xs ys df s st = some o) : p = o.2.1 ∧ r = o.2.2.1 := by
  unfold f_Reader_readPlaced_F at ha
  obtain ⟨_, ha⟩ := gq_e ha
  simp only [nl] at ha
  obtain ⟨x, hx, ha⟩ := bd_e ha
  obtain ⟨x1, x2, x3⟩ := x
  obtain ⟨e1, e2⟩ := bits_k hr hx
  dsimp only at e1 e2 ha
  subst e1 e2
  obtain ⟨x, hx, ha⟩ := bd_e ha
  obtain ⟨x4, x5, x6, x7⟩ := x
  obtain ⟨e1, e2⟩ := nameF_k hr hx
  dsimp only at e1 e2 ha
  subst e1 e2
  obtain ⟨z, hz, ha⟩ := bd_e ha
  have := isr1 hr hz
  subst this
  first | rw [if_neg (by decide)] at ha | rw [if_neg id] at ha
  rw [← Option.some.inj ha]
  exact ⟨rfl, rfl⟩
/-- the class's loop over instances -/
def L12F (N : Int32) (W : Nat → Int32) (n : Int32) (cb : Nat → Int32) (dc : Int32) (w h : Nat → Int32) := f_Reader_readInstances_F_L12 N W n cb dc w h
    (fun (v5_13 : Int32) (la_count_14 : Int32) (rd_place_15 : Int32) (rd_refusal_16 : Int32) (na_row_17 : (Nat → Int32)) (la_symbolOf_18 : (Nat → Int32)) (la_xs_19 : (Nat → Int32)) (la_ys_20 : (Nat → Int32)) (la_differs_21 : (Nat → Int64)) =>
      if v5_13 = 0 then
        some (la_count_14, rd_place_15, rd_refusal_16, na_row_17, la_symbolOf_18, la_xs_19, la_ys_20, la_differs_21)
      else
        bd (f_BitReader_refuse rd_refusal_16 (2 : Int32)) fun rd_refusal_57 =>
        some (la_count_14, rd_place_15, rd_refusal_57, na_row_17, la_symbolOf_18, la_xs_19, la_ys_20, la_differs_21))
def RQF (n dc : Int32) (w h : Nat → Int32) (k317 : Int32 → Int32 → Int32 → (Nat → Int32) → (Nat → Int32) → (Nat → Int32) → (Nat → Int32) → (Nat → Int64) → Option (Int32 × Int32 × Int32 × (Nat → Int32) × (Nat → Int32) × (Nat → Int32) × (Nat → Int32) × (Nat → Int32) × (Nat → Int32) × (Nat → Int32) × (Nat → Int64))) (a : Int32 × Int32 × Int32 × (Nat → Int32) × (Nat → Int32) × (Nat → Int32) × (Nat → Int32) × (Nat → Int64)) (d : Int32 × Int32 × Int32 × (Nat → Int32) × (Nat → Int32) × (Nat → Int32) × (Nat → Int32) × (Nat → Int32) × (Nat → Int32) × (Nat → Int32) × (Nat → Int64)) : Prop :=
  ∃ (many : Int32) (row9 rS rX rY : Nat → Int32) (rD : Nat → Int64), k317 a.2.1 a.2.2.1 many row9 rS rX rY rD = some d ∧ RP n a.2.1 a.2.2.1 ∧ (a.2.2.1 = 0 → a.1 = many ∧ 0 ≤ many.toInt ∧ many.toInt ≤ 40 ∧ LI many dc w h a.2.2.2.2.1 a.2.2.2.2.2.1 a.2.2.2.2.2.2.1 a.2.2.2.2.2.2.2 rS rX rY rD)
/-- a refused class reads no more -/
theorem l12_k_F {N n dc i go fs st cnt p r : Int32} {W cb row w h sO xs ys : Nat → Int32} {df : Nat → Int64} {a : Int32 × Int32 × Int32 × (Nat → Int32) × (Nat → Int32) × (Nat → Int32) × (Nat → Int32) × (Nat → Int64)} {f : Nat} (hr : ¬ r = 0) (hg : go = 0) (ha : lp (L12F N W n cb dc w h) f (i, go, fs, st, cnt, p, r, row, sO, xs, ys, df) = some a) : a.2.1 = p ∧ a.2.2.1 = r := by
  cases f with
  | zero => exact absurd ha (by simp [lp])
  | succ f =>
    obtain ⟨gf, egf, ha⟩ := lp_x ha
    unfold L12F f_Reader_readInstances_F_L12 at ha
    dsimp only at ha
    rw [if_pos hg] at ha
    by_cases c : N ≤ i
    · rw [if_pos c] at ha
      rw [← Option.some.inj ha]
      exact ⟨rfl, rfl⟩
    · rw [if_neg c] at ha
      obtain ⟨z, hz, ha⟩ := bd_e ha
      have := isr1 hr hz
      subst this
      first | rw [if_neg (by decide)] at ha | rw [if_neg id] at ha
      rw [← Option.some.inj ha]
      exact ⟨rfl, rfl⟩
set_option maxRecDepth 4000 in
set_option maxHeartbeats 8000000 in
theorem rins_F {n dc N r5 r8 r11 r14 : Int32} {cb i9 W RW0 w h le cd : Nat → Int32} {k317 : Int32 → Int32 → Int32 → (Nat → Int32) → (Nat → Int32) → (Nat → Int32) → (Nat → Int32) → (Nat → Int64) → Option (Int32 × Int32 × Int32 × (Nat → Int32) × (Nat → Int32) × (Nat → Int32) × (Nat → Int32) × (Nat → Int32) × (Nat → Int32) × (Nat → Int32) × (Nat → Int64))} (hB : RB n cb i9) (hw : R w 0 8) (hh : R h 0 8) (hW : WY W (upd (upd (upd (upd RW0 ((2 : Int32)).toNatClampNeg r5) ((1 : Int32)).toNatClampNeg r8) ((0 : Int32)).toNatClampNeg r11) ((3 : Int32)).toNatClampNeg r14)) (hd : dc.toInt ≤ 16) (N0 : 0 ≤ N.toInt) (N1 : N.toInt ≤ 40)  :
    ∀ (f : Nat),
      (∀ (i fs st p fi st9 : Int32) (row row9 sO xs ys rS rX rY : Nat → Int32) (df rD : Nat → Int64) (M : Nat) (a : Int32 × Int32 × Int32 × (Nat → Int32) × (Nat → Int32) × (Nat → Int32) × (Nat → Int32) × (Nat → Int64)) (d : Int32 × Int32 × Int32 × (Nat → Int32) × (Nat → Int32) × (Nat → Int32) × (Nat → Int32) × (Nat → Int32) × (Nat → Int32) × (Nat → Int32) × (Nat → Int64)), 0 ≤ i.toInt → i.toInt ≤ N.toInt → RP n p 0 → LI i dc w h sO xs ys df rS rX rY rD → RE row row9 → RW dc row9 → ((i = 0 ∧ fi = 1 ∧ st = -17) ∨ (fi = 0 ∧ st9 = st)) →
        lp (L12F N W n cb dc w h) f (i, 0, fs, st, i, p, 0, row, sO, xs, ys, df) = some a → lp (L118 N n i9 1 dc RW0 r5 r8 r11 r14 le cd w h k317) M (fi, fs, st9, p, 0, i, row9, rS, rX, rY, rD) = some d → RQF n dc w h k317 a d) ∧
      (∀ (i fs st s p : Int32) (row row9 sO xs ys rS rX rY : Nat → Int32) (df rD : Nat → Int64) (m M : Nat) (a : Int32 × Int32 × Int32 × (Nat → Int32) × (Nat → Int32) × (Nat → Int32) × (Nat → Int32) × (Nat → Int64)) (d : Int32 × Int32 × Int32 × (Nat → Int32) × (Nat → Int32) × (Nat → Int32) × (Nat → Int32) × (Nat → Int32) × (Nat → Int32) × (Nat → Int32) × (Nat → Int64)), 1 ≤ i.toInt → i.toInt ≤ N.toInt → RP n p 0 → LI i dc w h sO xs ys df rS rX rY rD → RE row row9 → RW dc row9 → (∀ u, f_Layout_nextS sO W xs w ys h (i - 1) = some u → u = s + (if (upd (upd (upd (upd RW0 ((2 : Int32)).toNatClampNeg r5) ((1 : Int32)).toNatClampNeg r8) ((0 : Int32)).toNatClampNeg r11) ((3 : Int32)).toNatClampNeg r14) ((1 : Int32)).toNatClampNeg = 1 then h (rS (i - 1).toNatClampNeg).toNatClampNeg else w (rS (i - 1).toNatClampNeg).toNatClampNeg)) →
        lp (L12F N W n cb dc w h) f (i, 1, fs, st, i, p, 0, row, sO, xs, ys, df) = some a → MID N n i9 1 dc RW0 r5 r8 r11 r14 le cd w h k317 m M fs st s p i row9 rS rX rY rD = some d → RQF n dc w h k317 a d) := by
  obtain ⟨w0, w1, w2, w3, wb⟩ := wy_e hW
  intro f
  induction f with
  | zero =>
    refine ⟨?_, ?_⟩
    · intro i fs st p fi st9 row row9 sO xs ys rS rX rY df rD M a d i0 i1 hP hL hE hR hst ha
      exact absurd ha (by simp [lp])
    · intro i fs st s p row row9 sO xs ys rS rX rY df rD m M a d i0 i1 hP hL hE hR hnx ha
      exact absurd ha (by simp [lp])
  | succ f ih =>
    obtain ⟨ihA, ihB⟩ := ih
    -- the reference, refused: it comes to its end
    have rend : ∀ (fi fs st p r i : Int32) (row9 rS rX rY : Nat → Int32) (rD : Nat → Int64) (M : Nat) (d : Int32 × Int32 × Int32 × (Nat → Int32) × (Nat → Int32) × (Nat → Int32) × (Nat → Int32) × (Nat → Int32) × (Nat → Int32) × (Nat → Int32) × (Nat → Int64)), ¬ r = 0 → lp (L118 N n i9 1 dc RW0 r5 r8 r11 r14 le cd w h k317) M (fi, fs, st, p, r, i, row9, rS, rX, rY, rD) = some d → k317 p r i row9 rS rX rY rD = some d := by
      intro fi fs st p r i row9 rS rX rY rD M d hr hb
      cases M with
      | zero => exact absurd hb (by simp [lp])
      | succ M =>
        obtain ⟨gm, egm, hb⟩ := lp_x hb
        unfold L118 f_Mo_readAll_L118 at hb
        dsimp only at hb
        rw [if_neg hr] at hb
        exact hb
    have rend2 : ∀ (fs st s p r i : Int32) (row9 rS rX rY : Nat → Int32) (rD : Nat → Int64) (m M : Nat) (d : Int32 × Int32 × Int32 × (Nat → Int32) × (Nat → Int32) × (Nat → Int32) × (Nat → Int32) × (Nat → Int32) × (Nat → Int32) × (Nat → Int32) × (Nat → Int64)), lp (L187 N n i9 1 dc RW0 r5 r8 r11 r14 le cd w h k317 M fs st) m (0, s, p, r, i, row9, rS, rX, rY, rD) = some d → lp (L118 N n i9 1 dc RW0 r5 r8 r11 r14 le cd w h k317) M (0, fs, st, p, r, i, row9, rS, rX, rY, rD) = some d := by
      intro fs st s p r i row9 rS rX rY rD m M d hb
      cases m with
      | zero => exact absurd hb (by simp [lp])
      | succ m =>
        obtain ⟨gm, egm, hb⟩ := lp_x hb
        unfold L187 f_Mo_readAll_L187 at hb
        dsimp only at hb
        first | rw [if_pos rfl] at hb | rw [if_pos trivial] at hb
        exact hb
    -- an instance, and what follows
    have inst : ∀ (i fs st s p : Int32) (row row9 sO xs ys rS rX rY : Nat → Int32) (df rD : Nat → Int64) (m M : Nat) (a : Int32 × Int32 × Int32 × (Nat → Int32) × (Nat → Int32) × (Nat → Int32) × (Nat → Int32) × (Nat → Int64)) (d : Int32 × Int32 × Int32 × (Nat → Int32) × (Nat → Int32) × (Nat → Int32) × (Nat → Int32) × (Nat → Int32) × (Nat → Int32) × (Nat → Int32) × (Nat → Int64)), 0 ≤ i.toInt → i.toInt < N.toInt → RP n p 0 → LI i dc w h sO xs ys df rS rX rY rD → RE row row9 → RW dc row9 → 
        (bd (f_Reader_readPlaced_F i W p 0 n cb dc row w h sO xs ys df s st) fun (la_count_28, rd_place_29, rd_refusal_30, na_row_31, la_symbolOf_32, la_xs_33, la_ys_34, la_differs_35) =>
          bd (f_Reader_readDiffers la_count_28 rd_place_29 rd_refusal_30 n cb la_symbolOf_32 w h la_differs_35) fun (rd_place_36, rd_refusal_37, la_differs_38) =>
          bd (f_BitReader_nextBit rd_place_36 rd_refusal_37 n cb) fun (r_39, rd_place_40, rd_refusal_41) =>
          if r_39 = (1 : Int32) then
            lp (L12F N W n cb dc w h) f (i + 1, 1, fs, st, la_count_28, rd_place_40, rd_refusal_41, na_row_31, la_symbolOf_32, la_xs_33, la_ys_34, la_differs_38)
          else
            lp (L12F N W n cb dc w h) f (i + 1, 0, fs, st, la_count_28, rd_place_40, rd_refusal_41, na_row_31, la_symbolOf_32, la_xs_33, la_ys_34, la_differs_38)) = some a →
        lp (L187 N n i9 1 dc RW0 r5 r8 r11 r14 le cd w h k317 M fs st) m (1, s, p, 0, i, row9, rS, rX, rY, rD) = some d → RQF n dc w h k317 a d := by
      intro i fs st s p row row9 sO xs ys rS rX rY df rD m M a d i0 i1 hP hL hE hR ha hb
      have ii := inc_i (k := i) (by omega) (by omega)
      cases m with
      | zero => exact absurd hb (by simp [lp])
      | succ m =>
        obtain ⟨gm, egm, hb⟩ := lp_x hb
        unfold L187 f_Mo_readAll_L187 at hb
        subst egm
        dsimp only at hb
        first | rw [if_neg (by decide)] at hb | rw [if_neg id] at hb
        obtain ⟨y, hy, hb⟩ := bd_e hb
        obtain ⟨y1, y2, y3, y4, y5, y6, y7, y8⟩ := y
        obtain ⟨x, hx1, ha⟩ := bd_e ha
        obtain ⟨c1, p1, q1, ro1, sO1, xs1, ys1, df1⟩ := x
        dsimp only at ha hb
        obtain ⟨x, hx2, ha⟩ := bd_e ha
        obtain ⟨p2, q2, df2⟩ := x
        dsimp only at ha
        obtain ⟨hS, hv⟩ := inst2_F hB hP rfl hw hh hW i0 (by omega) hL hd hE hR hx1 hx2 hy
        have hS9 := hS
        obtain ⟨e1, e2, hP2, _, _⟩ := hS
        subst e1 e2
        obtain ⟨x, hx3, ha⟩ := bd_e ha
        obtain ⟨b1, p3, q3⟩ := x
        dsimp only at ha
        obtain ⟨j219, ej219, hb⟩ := jn_e hb
        obtain ⟨j218, ej218, hb⟩ := jn_e hb
        -- more is 0: the strip ends
        have stop : ∀ (pp qq : Int32), j219 0 pp qq = some d → lp (L118 N n i9 1 dc RW0 r5 r8 r11 r14 le cd w h k317) M (0, fs, st, pp, qq, y3, y4, y5, y6, y7, y8) = some d := by
          intro pp qq hb
          rw [ej219] at hb
          dsimp only [jn] at hb
          first | rw [if_pos rfl] at hb | rw [if_pos trivial] at hb
          first | rw [if_pos rfl] at hb | rw [if_pos trivial] at hb
          exact rend2 _ _ _ _ _ _ _ _ _ _ _ m M d hb
        by_cases c : y2 = 0
        · obtain ⟨ec, em, hL1, hRR, hNX⟩ := hv c
          subst ec em c
          first | rw [if_pos rfl] at hb | rw [if_pos trivial] at hb
          obtain ⟨z, hz, hb⟩ := bd_e hb
          obtain ⟨b9, p9, q9⟩ := z
          obtain ⟨hS3, e3, e4, e5⟩ := next_S hB hP2 hx3 hz
          have hS39 := hS3
          obtain ⟨e6, e7, hP3, _, _⟩ := hS3
          subst e3 e6 e7
          dsimp only at hb
          by_cases c2 : b9 = 1
          · rw [if_pos c2] at ha hb
            have q0 : q9 = 0 := by
              by_cases z : q9 = 0
              · exact z
              · have := e5 z
                rw [c2] at this
                exact absurd this (by decide)
            subst q0
            rw [ej219] at hb
            dsimp only [jn] at hb
            first | rw [if_neg (by decide)] at hb | rw [if_neg id] at hb
            refine ihB (i + 1) fs st s p9 ro1 y4 sO1 xs1 ys1 y5 y6 y7 df2 y8 m M a d (by omega) (by omega) hP3 hL1 hRR.1 hRR.2 ?_ ha hb
            intro u hu
            rw [Int32.add_sub_cancel] at hu ⊢
            exact hNX u hu
          · rw [if_neg c2] at ha hb
            rw [ej218] at hb
            have hb := stop _ _ hb
            by_cases c3 : q9 = 0
            · subst c3
              exact ihA (i + 1) fs st p9 0 st ro1 y4 sO1 xs1 ys1 y5 y6 y7 df2 y8 M a d (by omega) (by omega) hP3 hL1 hRR.1 hRR.2 (Or.inr ⟨rfl, rfl⟩) ha hb
            · obtain ⟨g1, g2⟩ := l12_k_F c3 rfl ha
              have hb := rend _ _ _ _ _ _ _ _ _ _ _ M d c3 hb
              refine ⟨_, _, _, _, _, _, by rw [g1, g2]; exact hb, by rw [g1, g2]; exact hP3, fun z => absurd (by rw [← g2]; exact z) c3⟩
        · rw [if_neg c] at hb
          rw [ej218] at hb
          have hb := stop _ _ hb
          have hb := rend _ _ _ _ _ _ _ _ _ _ _ M d c hb
          have nk := next_k c hx3
          simp only [Prod.mk.injEq] at nk
          obtain ⟨g3, g4, g5⟩ := nk
          rw [g3, g4, g5] at ha
          first | rw [if_neg (by decide)] at ha | rw [if_neg id] at ha
          obtain ⟨g1, g2⟩ := l12_k_F c rfl ha
          refine ⟨_, _, _, _, _, _, by rw [g1, g2]; exact hb, by rw [g1, g2]; exact hP2, fun z => absurd (by rw [← g2]; exact z) c⟩
    -- a reader refused before an instance
    have refd : ∀ (i fs st s p r : Int32) (row row9 sO xs ys rS rX rY : Nat → Int32) (df rD : Nat → Int64) (M : Nat) (a : Int32 × Int32 × Int32 × (Nat → Int32) × (Nat → Int32) × (Nat → Int32) × (Nat → Int32) × (Nat → Int64)) (d : Int32 × Int32 × Int32 × (Nat → Int32) × (Nat → Int32) × (Nat → Int32) × (Nat → Int32) × (Nat → Int32) × (Nat → Int32) × (Nat → Int32) × (Nat → Int64)), RP n p r → ¬ r = 0 →
        (bd (f_Reader_readPlaced_F i W p r n cb dc row w h sO xs ys df s st) fun (la_count_28, rd_place_29, rd_refusal_30, na_row_31, la_symbolOf_32, la_xs_33, la_ys_34, la_differs_35) =>
          bd (f_Reader_readDiffers la_count_28 rd_place_29 rd_refusal_30 n cb la_symbolOf_32 w h la_differs_35) fun (rd_place_36, rd_refusal_37, la_differs_38) =>
          bd (f_BitReader_nextBit rd_place_36 rd_refusal_37 n cb) fun (r_39, rd_place_40, rd_refusal_41) =>
          if r_39 = (1 : Int32) then
            lp (L12F N W n cb dc w h) f (i + 1, 1, fs, st, la_count_28, rd_place_40, rd_refusal_41, na_row_31, la_symbolOf_32, la_xs_33, la_ys_34, la_differs_38)
          else
            lp (L12F N W n cb dc w h) f (i + 1, 0, fs, st, la_count_28, rd_place_40, rd_refusal_41, na_row_31, la_symbolOf_32, la_xs_33, la_ys_34, la_differs_38)) = some a →
        k317 p r i row9 rS rX rY rD = some d → RQF n dc w h k317 a d := by
      intro i fs st s p r row row9 sO xs ys rS rX rY df rD M a d hP hr ha hb
      obtain ⟨x, hx1, ha⟩ := bd_e ha
      obtain ⟨c1, p1, q1, ro1, sO1, xs1, ys1, df1⟩ := x
      obtain ⟨e1, e2⟩ := placed_k_F hr hx1
      dsimp only at e1 e2 ha
      subst e1 e2
      obtain ⟨x, hx2, ha⟩ := bd_e ha
      obtain ⟨p2, q2, df2⟩ := x
      obtain ⟨e1, e2⟩ := diff_k hr hx2
      dsimp only at ha
      replace e1 := e1.symm
      replace e2 := e2.symm
      subst e1 e2
      obtain ⟨x, hx3, ha⟩ := bd_e ha
      have := next_k hr hx3
      subst this
      dsimp only at ha
      first | rw [if_neg (by decide)] at ha | rw [if_neg id] at ha
      obtain ⟨g1, g2⟩ := l12_k_F hr rfl ha
      refine ⟨_, _, _, _, _, _, by rw [g1, g2]; exact hb, by rw [g1, g2]; exact hP, fun z => absurd (by rw [← g2]; exact z) hr⟩
    refine ⟨?_, ?_⟩
    · intro i fs st p fi st9 row row9 sO xs ys rS rX rY df rD M a d i0 i1 hP hL hE hR hst ha hb
      obtain ⟨gf, egf, ha⟩ := lp_x ha
      unfold L12F f_Reader_readInstances_F_L12 at ha
      subst egf
      dsimp only at ha
      cases M with
      | zero => exact absurd hb (by simp [lp])
      | succ M =>
        obtain ⟨gm, egm, hb⟩ := lp_x hb
        unfold L118 f_Mo_readAll_L118 at hb
        subst egm
        dsimp only at hb
        first | rw [if_pos rfl] at hb | rw [if_pos trivial] at hb
        by_cases c : N ≤ i
        · rw [if_pos c] at ha hb
          first | rw [if_pos rfl] at ha | rw [if_pos trivial] at ha
          have c9 := t_le c
          have ha := Option.some.inj ha
          subst ha
          exact ⟨_, _, _, _, _, _, hb, hP, fun _ => ⟨rfl, i0, by omega, hL⟩⟩
        · rw [if_neg c] at ha hb
          have c9 := t_lt (Int32.not_le.mp c)
          obtain ⟨z, hz, ha⟩ := bd_e ha
          have := isr0 rfl hz
          subst this
          first | rw [if_pos rfl] at ha | rw [if_pos trivial] at ha
          dsimp only [jn, nl] at ha hb
          first | rw [if_pos rfl] at ha | rw [if_pos trivial] at ha
          obtain ⟨x, hx, ha⟩ := bd_e ha
          obtain ⟨y, hy, hb⟩ := bd_e hb
          obtain ⟨x1, x2, x3⟩ := x
          obtain ⟨y1, y2, y3⟩ := y
          obtain ⟨hS, hv⟩ := num2 hB hP hx hy
          have hS9 := hS
          obtain ⟨e1, e2, hP1, _, _⟩ := hS
          subst e1 e2
          dsimp only at ha hb
          obtain ⟨x, hx, ha⟩ := bd_e ha
          have hb : ∃ S : Int32, (y3 = 0 → S = st + (x1 + 1)) ∧ (bd (f_Mo_nextSigned n y2 y3 i9) fun (r_46, mo_at_47, mo_refused_48) =>
              if mo_refused_48 = 0 then
                lp (L187 N n i9 1 dc RW0 r5 r8 r11 r14 le cd w h k317 M (fs + r_46) S) FU (1, fs + r_46, mo_at_47, mo_refused_48, i, row9, rS, rX, rY, rD)
              else
                lp (L187 N n i9 1 dc RW0 r5 r8 r11 r14 le cd w h k317 M (fs + r_46) S) FU (0, fs + r_46, mo_at_47, mo_refused_48, i, row9, rS, rX, rY, rD)) = some d := by
            rcases hst with ⟨q1, q2, q3⟩ | ⟨q1, q2⟩
            · subst q2
              first | rw [if_neg (by decide)] at hb | rw [if_neg id] at hb
              refine ⟨y1 - 16, fun z => ?_, hb⟩
              rw [q3, hv z]
              exact g_17 _
            · subst q1 q2
              first | rw [if_pos rfl] at hb | rw [if_pos trivial] at hb
              refine ⟨st9 + 1 + y1, fun z => ?_, hb⟩
              rw [hv z]
              exact g_s1 _ _
          obtain ⟨S, eS, hb⟩ := hb
          obtain ⟨y, hy2, hb⟩ := bd_e hb
          obtain ⟨x4, x5, x6⟩ := x
          obtain ⟨y4, y5, y6⟩ := y
          obtain ⟨hS2, hv2⟩ := signed2 hB hP1 hx hy2
          have hS29 := hS2
          obtain ⟨e1, e2, hP2, _, hm2⟩ := hS2
          subst e1 e2
          dsimp only at ha hb
          by_cases c2 : y6 = 0
          · have e3 := hv2 c2
            have e4 := eS (hm2 c2)
            subst e3 e4 c2
            first | rw [if_pos rfl] at hb | rw [if_pos trivial] at hb
            exact inst i (fs + y4) _ (fs + y4) y5 row row9 sO xs ys rS rX rY df rD FU M a d i0 c9 hP2 hL hE hR ha hb
          · rw [if_neg c2] at hb
            have hb := rend2 _ _ _ _ _ _ _ _ _ _ _ FU M d hb
            have hb := rend _ _ _ _ _ _ _ _ _ _ _ M d c2 hb
            exact refd i _ _ _ y5 y6 row row9 sO xs ys rS rX rY df rD M a d hP2 c2 ha hb
    · intro i fs st s p row row9 sO xs ys rS rX rY df rD m M a d i0 i1 hP hL hE hR hnx ha hb
      obtain ⟨gf, egf, ha⟩ := lp_x ha
      unfold L12F f_Reader_readInstances_F_L12 at ha
      subst egf
      dsimp only at ha
      unfold MID at hb
      by_cases c : N ≤ i
      · have c9 := t_le c
        have ei : i = N := Int32.toInt_inj.mp (by omega)
        rw [if_pos c, if_neg (by decide)] at ha
        rw [if_pos ei] at hb
        obtain ⟨u, hu, ha⟩ := bd_e ha
        obtain ⟨v, hv, hb⟩ := bd_e hb
        have e1 := ref_0 rfl hu
        have e2 := refM_0 rfl hv
        subst e1 e2
        have ha := Option.some.inj ha
        subst ha
        first | rw [if_pos rfl] at hb | rw [if_pos trivial] at hb
        have hb := rend2 _ _ _ _ _ _ _ _ _ _ _ m M d hb
        have hb := rend _ _ _ _ _ _ _ _ _ _ _ M d (by decide) hb
        exact ⟨_, _, _, _, _, _, hb, ⟨hP.1, hP.2.1, p2_0⟩, fun z => absurd z n2_0⟩
      · have c9 := t_lt (Int32.not_le.mp c)
        have ne : ¬ i = N := fun z => by rw [z] at c9; omega
        rw [if_neg c] at ha
        rw [if_neg ne, if_neg (by decide)] at hb
        obtain ⟨z, hz, ha⟩ := bd_e ha
        have := isr0 rfl hz
        subst this
        first | rw [if_pos rfl] at ha | rw [if_pos trivial] at ha
        dsimp only [jn, nl] at ha hb
        first | rw [if_neg (by decide)] at ha | rw [if_neg id] at ha
        obtain ⟨u, hu, ha⟩ := bd_e ha
        have eu := hnx u hu
        obtain ⟨x, hx, ha⟩ := bd_e ha
        obtain ⟨_, hb⟩ := gq_e hb
        obtain ⟨_, hb⟩ := gq_e hb
        have hb : (bd (f_Mo_nextSigned n p 0 i9) fun (r_85, mo_at_86, mo_refused_87) =>
            if mo_refused_87 = 0 then
              lp (L187 N n i9 1 dc RW0 r5 r8 r11 r14 le cd w h k317 M fs st) m (1, u + r_85, mo_at_86, mo_refused_87, i, row9, rS, rX, rY, rD)
            else
              lp (L187 N n i9 1 dc RW0 r5 r8 r11 r14 le cd w h k317 M fs st) m (0, u + r_85, mo_at_86, mo_refused_87, i, row9, rS, rX, rY, rD)) = some d := by
          rw [eu]
          by_cases q : (upd (upd (upd (upd RW0 ((2 : Int32)).toNatClampNeg r5) ((1 : Int32)).toNatClampNeg r8) ((0 : Int32)).toNatClampNeg r11) ((3 : Int32)).toNatClampNeg r14) ((1 : Int32)).toNatClampNeg = 1
          · rw [if_pos q] at hb ⊢
            obtain ⟨_, hb⟩ := gq_e hb
            exact hb
          · rw [if_neg q] at hb ⊢
            obtain ⟨_, hb⟩ := gq_e hb
            exact hb
        obtain ⟨y, hy2, hb⟩ := bd_e hb
        obtain ⟨x4, x5, x6⟩ := x
        obtain ⟨y4, y5, y6⟩ := y
        obtain ⟨hS2, hv2⟩ := signed2 hB hP hx hy2
        have hS29 := hS2
        obtain ⟨e1, e2, hP2, _, hm2⟩ := hS2
        subst e1 e2
        dsimp only at ha hb
        by_cases c2 : y6 = 0
        · have e3 := hv2 c2
          subst e3 c2
          first | rw [if_pos rfl] at hb | rw [if_pos trivial] at hb
          exact inst i fs st _ y5 row row9 sO xs ys rS rX rY df rD m M a d (by omega) c9 hP2 hL hE hR ha hb
        · rw [if_neg c2] at hb
          have hb := rend2 _ _ _ _ _ _ _ _ _ _ _ m M d hb
          have hb := rend _ _ _ _ _ _ _ _ _ _ _ M d c2 hb
          exact refd i _ _ _ y5 y6 row row9 sO xs ys rS rX rY df rD M a d hP2 c2 ha hb
