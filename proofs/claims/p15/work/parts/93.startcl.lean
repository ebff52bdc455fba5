theorem st_CL {b : Nat} {s : State} (hts : ∀ w ∈ lw_tbl, w.before #[Value.ref b] s = true) : ∃ (dC : Nat → ClassId) (dI : Nat → Nat → Nat), ∀ (k : Nat) (q : vw_C), CL[k]? = some q → u_Kn s q.1 q.2.1 q.2.2 (dC k) (dI k) := by
  have hB := st_big hts
  obtain ⟨c0, i0, h0⟩ := u_known (C := R_Top) (T := T_Top) (N := 10) (n := 10) hB iw_Top (hB _ bw_22)
  obtain ⟨c1, i1, h1⟩ := u_known (C := R_Mo) (T := T_Mo) (N := 38) (n := 38) hB iw_Mo (hB _ bw_865)
  obtain ⟨c2, i2, h2⟩ := u_known (C := R_BitReader) (T := T_BitReader) (N := 3) (n := 3) hB iw_BitReader (hB _ bw_175)
  obtain ⟨c3, i3, h3⟩ := u_known (C := R_BitWriter) (T := T_BitWriter) (N := 3) (n := 3) hB iw_BitWriter (hB _ bw_145)
  obtain ⟨c4, i4, h4⟩ := u_known (C := R_ByteRow) (T := T_ByteRow) (N := 2) (n := 2) hB iw_ByteRow (hB _ bw_89)
  obtain ⟨c5, i5, h5⟩ := u_known (C := R_CodeNames) (T := T_CodeNames) (N := 5) (n := 5) hB iw_CodeNames (hB _ bw_108)
  obtain ⟨c6, i6, h6⟩ := u_known (C := R_Dictionary) (T := T_Dictionary) (N := 4) (n := 4) hB iw_Dictionary (hB _ bw_39)
  obtain ⟨c7, i7, h7⟩ := u_known (C := R_FrontNames) (T := T_FrontNames) (N := 2) (n := 2) hB iw_FrontNames (hB _ bw_130)
  obtain ⟨c8, i8, h8⟩ := u_known (C := R_Layout) (T := T_Layout) (N := 8) (n := 8) hB iw_Layout (hB _ bw_204)
  obtain ⟨c9, i9, h9⟩ := u_known (C := R_Page) (T := T_Page) (N := 3) (n := 3) hB iw_Page (hB _ bw_69)
  obtain ⟨c10, i10, h10⟩ := u_known (C := R_Reader) (T := T_Reader) (N := 2) (n := 2) hB iw_Reader (hB _ bw_173)
  obtain ⟨c11, i11, h11⟩ := u_known (C := R_Teller) (T := T_Teller) (N := 2) (n := 2) hB iw_Teller (hB _ bw_143)
  refine ⟨fun k => if k = 0 then c0 else if k = 1 then c1 else if k = 2 then c2 else if k = 3 then c3 else if k = 4 then c4 else if k = 5 then c5 else if k = 6 then c6 else if k = 7 then c7 else if k = 8 then c8 else if k = 9 then c9 else if k = 10 then c10 else c11, fun k => if k = 0 then i0 else if k = 1 then i1 else if k = 2 then i2 else if k = 3 then i3 else if k = 4 then i4 else if k = 5 then i5 else if k = 6 then i6 else if k = 7 then i7 else if k = 8 then i8 else if k = 9 then i9 else if k = 10 then i10 else i11, ?_⟩
  intro k q hq
  match k, hq with
  | 0, hq => cases hq; exact h0
  | 1, hq => cases hq; exact h1
  | 2, hq => cases hq; exact h2
  | 3, hq => cases hq; exact h3
  | 4, hq => cases hq; exact h4
  | 5, hq => cases hq; exact h5
  | 6, hq => cases hq; exact h6
  | 7, hq => cases hq; exact h7
  | 8, hq => cases hq; exact h8
  | 9, hq => cases hq; exact h9
  | 10, hq => cases hq; exact h10
  | 11, hq => cases hq; exact h11
  | k + 12, hq => simp [CL] at hq
