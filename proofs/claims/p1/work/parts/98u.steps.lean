/-- the two fields that told alone reads are the same on both sides -/
def TD (z : TS) (y : MS) : Prop := z.tr_kind = y.mo_kind ∧ z.tr_refusedAt = y.mo_place
theorem told_same {kd : Int32} {z : TS} {y y1 : MS} {p k q : Int32} (hI : II kd z y ∧ TD z y) (hT : T_told z p = some k) (hM : M_told y p = some (q, y1)) : k = q := by
  obtain ⟨⟨hz, hy, hj⟩, t1, t2⟩ := hI
  obtain ⟨jk, j1, j2, j3, j4, j5, jL, j6, jO, j7, jI, jP⟩ := hj
  obtain ⟨pw, ph, jP⟩ := jP
  unfold T_told at hT
  rw [t1, t2, pw, ph, j1, j5, j6, j7] at hT
  unfold M_told at hM
  obtain ⟨o, e1, f1⟩ := Option.map_eq_some_iff.mp hM
  have f2 : o.1 = q := congrArg Prod.fst f1
  clear f1 hM
  unfold f_Top_told at hT
  unfold f_Mo_told at e1
  by_cases c0 : p = (0 : Int32)
  · rw [if_pos c0] at hT e1
    cases hT
    cases e1
    exact f2
  rw [if_neg c0] at hT e1
  by_cases c1 : p = (1 : Int32)
  · rw [if_pos c1] at hT e1
    cases hT
    cases e1
    exact f2
  rw [if_neg c1] at hT e1
  by_cases c2 : p = (2 : Int32)
  · rw [if_pos c2] at hT e1
    cases hT
    cases e1
    exact f2
  rw [if_neg c2] at hT e1
  by_cases c3 : p = (3 : Int32)
  · rw [if_pos c3] at hT e1
    cases hT
    cases e1
    exact f2
  rw [if_neg c3] at hT e1
  by_cases c4 : p = (4 : Int32)
  · rw [if_pos c4] at hT e1
    cases hT
    cases e1
    exact f2
  rw [if_neg c4] at hT e1
  by_cases c5 : p = (5 : Int32)
  · rw [if_pos c5] at hT e1
    cases hT
    cases e1
    exact f2
  rw [if_neg c5] at hT e1
  by_cases c6 : p = (6 : Int32)
  · rw [if_pos c6] at hT e1
    cases hT
    cases e1
    exact f2
  rw [if_neg c6] at hT e1
  by_cases c7 : p = (7 : Int32)
  · rw [if_pos c7] at hT e1
    cases hT
    cases e1
    exact f2
  rw [if_neg c7] at hT e1
  cases hT
  cases e1
  exact f2
set_option maxRecDepth 20000 in
theorem firstC : StepsC (fun z y => II 0 z y ∧ TD z y) (fun _ _ => True) := ⟨(fun z y p1 p2 p3 p4 hI => by
    obtain ⟨z1, y1, k, q, hT, hM, ht, ho, hJ⟩ := st_symbol 0 z y p1 p2 hI.1
    exact ⟨z1, y1, k, q, k, hT, hM, ht, (fun n0 n1 n2 => n2 (by rw [ho n1]; exact cmp_0.mpr rfl)), (fun n0 => n0 rfl), trivial⟩), (fun z y p1 p2 p3 p4 hI => by
    obtain ⟨z1, y1, k, q, hT, hM, ht, ho, hJ⟩ := st_put 0 z y p1 p2 p3 (if p4 = 0 then (0 : Int32) else 1) (by by_cases c : p4 = 0 <;> simp [c]) hI.1
    exact ⟨z1, y1, k, q, k, hT, hM, ht, (fun n0 n1 n2 n3 n4 n5 => n5 (by rw [ho n3, if_pos n4]; exact cmp_0.mpr rfl)), (fun n0 n1 n2 n3 n4 n5 => n5 (by rw [ho n3, if_neg n4]; exact cmp_0.mpr rfl)), (fun n0 n1 n2 => n2 rfl), (fun n0 n1 n2 n3 n4 n5 => n5 (by rw [ho n3, if_pos n4]; exact cmp_0.mpr rfl)), (fun n0 n1 n2 n3 n4 n5 => n5 (by rw [ho n3, if_neg n4]; exact cmp_0.mpr rfl)), (fun n0 n1 n2 => n2 rfl), trivial⟩), (fun z y p1 p2 p3 p4 hI => by
    obtain ⟨z1, y1, k, q, hT, hM, ht, ho, hJ⟩ := st_instance 0 z y p1 p2 p3 hI.1
    exact ⟨z1, y1, k, q, k, hT, hM, ht, (fun n0 n1 n2 => n2 (by rw [ho n1]; exact cmp_0.mpr rfl)), (fun n0 => n0 rfl), trivial⟩), (fun z y p1 p2 p3 p4 hI => by
    obtain ⟨z1, y1, k, q, hT, hM, ht, ho, hJ⟩ := st_refine 0 z y p1 p2 p3 (if p4 = 0 then (0 : Int32) else 1) (by by_cases c : p4 = 0 <;> simp [c]) hI.1
    exact ⟨z1, y1, k, q, k, hT, hM, ht, (fun n0 n1 n2 n3 n4 n5 => n5 (by rw [ho n3, if_pos n4]; exact cmp_0.mpr rfl)), (fun n0 n1 n2 n3 n4 n5 => n5 (by rw [ho n3, if_neg n4]; exact cmp_0.mpr rfl)), (fun n0 n1 n2 => n2 rfl), (fun n0 n1 n2 n3 n4 n5 => n5 (by rw [ho n3, if_pos n4]; exact cmp_0.mpr rfl)), (fun n0 n1 n2 n3 n4 n5 => n5 (by rw [ho n3, if_neg n4]; exact cmp_0.mpr rfl)), (fun n0 n1 n2 => n2 rfl), trivial⟩), (fun z y p1 p2 p3 p4 hI => by
    obtain ⟨z1, y1, k, q, hT, hM, ht, ho, hJ⟩ := st_way 0 z y p1 p2 hI.1
    exact ⟨z1, y1, k, q, k, hT, hM, ht, (fun n0 n1 n2 => n2 (by rw [ho n1]; exact cmp_0.mpr rfl)), (fun n0 => n0 rfl), trivial⟩), (fun z y p1 p2 p3 p4 hI => by
    obtain ⟨z1, y1, k, q, hT, hM, ht, ho, hJ⟩ := st_order_C z y p1 hI.1
    exact ⟨z1, y1, k, q, k, hT, hM, ht, (fun n0 n1 n2 => n2 (by rw [ho n1]; exact cmp_0.mpr rfl)), (fun n0 => n0 rfl), trivial⟩), (fun z y p1 p2 p3 p4 hI => by
    obtain ⟨z1, y1, k, q, hT, hM, hq, hJ⟩ := st_compose 0 z y  hI.1
    exact ⟨z1, y1, k, q, hT, hM, (fun n0 => n0 hq), trivial⟩), (fun z y p1 p2 p3 p4 hI => by
    obtain ⟨z1, y1, k, q, hT, hM, ht, ho, hJ⟩ := st_at 0 z y p1 p2 hI.1
    exact ⟨z1, y1, k, q, k, hT, hM, ht, (fun n0 n1 n2 n3 => n3 (by rw [ho n1, if_pos n2]; exact cmp_0.mpr rfl)), (fun n0 n1 n2 n3 => n3 (by rw [ho n1, if_neg n2]; exact cmp_0.mpr rfl)), (fun n0 => n0 rfl), trivial⟩), (fun z y p1 p2 p3 p4 hI => by
    obtain ⟨z1, y1, k, q, hT, hM, hq, hJ⟩ := st_write_C z y  hI.1
    exact ⟨z1, y1, k, q, hT, hM, (fun n0 => n0 hq), trivial⟩), (fun z y p1 p2 p3 p4 hI => by
    obtain ⟨z1, y1, k, q, hT, hM, ht, ho, hJ⟩ := st_byteAt 0 z y p1 hI.1
    exact ⟨z1, y1, k, q, k, hT, hM, ht, (fun n0 n1 n2 => n2 (by rw [ho n1]; exact cmp_0.mpr rfl)), (fun n0 => n0 rfl), trivial⟩), (fun z y p1 p2 p3 p4 hI => by
    obtain ⟨z1, y1, k, q, hT, hM, ht, ho, hJ⟩ := st_feed 0 z y p1 hI.1
    exact ⟨z1, y1, k, q, k, hT, hM, ht, (fun n0 n1 n2 => n2 (by rw [ho n1]; exact cmp_0.mpr rfl)), (fun n0 => n0 rfl), trivial⟩), (fun z y p1 p2 p3 p4 hI => by
    obtain ⟨z1, y1, k, q, hT, hM, ht, ho, hJ⟩ := st_pass 0 z y  hI.1
    exact ⟨z1, y1, k, q, k, hT, hM, ht, (fun n0 n1 n2 => n2 (by rw [ho n1]; exact cmp_0.mpr rfl)), (fun n0 => n0 rfl), trivial⟩), (fun z y p1 p2 p3 p4 hI => by
    obtain ⟨z1, y1, k, sw, q, hT, hM, hq, hJ⟩ := st_read_C z y  hI.1
    exact ⟨z1, y1, k, sw, q, hT, hM, (fun n0 => n0 hq), trivial⟩), (fun z y p1 p2 p3 p4 hI => by
    obtain ⟨z1, y1, k, q, hT, hM, ht, ho, hJ⟩ := st_place 0 z y p1 p2 hI.1
    exact ⟨z1, y1, k, q, k, hT, hM, ht, (fun n0 n1 n2 => n2 (by rw [ho n1]; exact cmp_0.mpr rfl)), (fun n0 => n0 rfl), trivial⟩), (fun z y p1 p2 p3 p4 hI => by
    obtain ⟨y1, k, q, hT, hM, hJ⟩ := st_told 0 z y p1 hI.1
    have hq := told_same hI hT hM
    exact ⟨y1, k, q, hT, hM, (fun n0 => n0 hq), trivial⟩), (fun z y p1 p2 p3 p4 hI => by
    obtain ⟨z1, y1, hT, hM, hJ⟩ := st_clear 0 z y  hI.1
    exact ⟨z1, y1, hT, hM, trivial⟩)⟩
set_option maxRecDepth 20000 in
theorem firstF : StepsF (fun z y => II 1 z y ∧ TD z y) (fun _ _ => True) := ⟨(fun z y p1 p2 p3 p4 hI => by
    obtain ⟨z1, y1, k, q, hT, hM, ht, ho, hJ⟩ := st_symbol 1 z y p1 p2 hI.1
    exact ⟨z1, y1, k, q, k, hT, hM, ht, (fun n0 n1 n2 => n2 (by rw [ho n1]; exact cmp_0.mpr rfl)), (fun n0 => n0 rfl), trivial⟩), (fun z y p1 p2 p3 p4 hI => by
    obtain ⟨z1, y1, k, q, hT, hM, ht, ho, hJ⟩ := st_put 1 z y p1 p2 p3 (if p4 = 0 then (0 : Int32) else 1) (by by_cases c : p4 = 0 <;> simp [c]) hI.1
    exact ⟨z1, y1, k, q, k, hT, hM, ht, (fun n0 n1 n2 n3 n4 n5 => n5 (by rw [ho n3, if_pos n4]; exact cmp_0.mpr rfl)), (fun n0 n1 n2 n3 n4 n5 => n5 (by rw [ho n3, if_neg n4]; exact cmp_0.mpr rfl)), (fun n0 n1 n2 => n2 rfl), (fun n0 n1 n2 n3 n4 n5 => n5 (by rw [ho n3, if_pos n4]; exact cmp_0.mpr rfl)), (fun n0 n1 n2 n3 n4 n5 => n5 (by rw [ho n3, if_neg n4]; exact cmp_0.mpr rfl)), (fun n0 n1 n2 => n2 rfl), trivial⟩), (fun z y p1 p2 p3 p4 hI => by
    obtain ⟨z1, y1, k, q, hT, hM, ht, ho, hJ⟩ := st_instance 1 z y p1 p2 p3 hI.1
    exact ⟨z1, y1, k, q, k, hT, hM, ht, (fun n0 n1 n2 => n2 (by rw [ho n1]; exact cmp_0.mpr rfl)), (fun n0 => n0 rfl), trivial⟩), (fun z y p1 p2 p3 p4 hI => by
    obtain ⟨z1, y1, k, q, hT, hM, ht, ho, hJ⟩ := st_refine 1 z y p1 p2 p3 (if p4 = 0 then (0 : Int32) else 1) (by by_cases c : p4 = 0 <;> simp [c]) hI.1
    exact ⟨z1, y1, k, q, k, hT, hM, ht, (fun n0 n1 n2 n3 n4 n5 => n5 (by rw [ho n3, if_pos n4]; exact cmp_0.mpr rfl)), (fun n0 n1 n2 n3 n4 n5 => n5 (by rw [ho n3, if_neg n4]; exact cmp_0.mpr rfl)), (fun n0 n1 n2 => n2 rfl), (fun n0 n1 n2 n3 n4 n5 => n5 (by rw [ho n3, if_pos n4]; exact cmp_0.mpr rfl)), (fun n0 n1 n2 n3 n4 n5 => n5 (by rw [ho n3, if_neg n4]; exact cmp_0.mpr rfl)), (fun n0 n1 n2 => n2 rfl), trivial⟩), (fun z y p1 p2 p3 p4 hI => by
    obtain ⟨z1, y1, k, q, hT, hM, ht, ho, hJ⟩ := st_way 1 z y p1 p2 hI.1
    exact ⟨z1, y1, k, q, k, hT, hM, ht, (fun n0 n1 n2 => n2 (by rw [ho n1]; exact cmp_0.mpr rfl)), (fun n0 => n0 rfl), trivial⟩), (fun z y p1 p2 p3 p4 hI => by
    obtain ⟨z1, y1, k, q, hT, hM, ht, ho, hJ⟩ := st_order_F z y p1 hI.1
    exact ⟨z1, y1, k, q, k, hT, hM, ht, (fun n0 n1 n2 => n2 (by rw [ho n1]; exact cmp_0.mpr rfl)), (fun n0 => n0 rfl), trivial⟩), (fun z y p1 p2 p3 p4 hI => by
    obtain ⟨z1, y1, k, q, hT, hM, hq, hJ⟩ := st_compose 1 z y  hI.1
    exact ⟨z1, y1, k, q, hT, hM, (fun n0 => n0 hq), trivial⟩), (fun z y p1 p2 p3 p4 hI => by
    obtain ⟨z1, y1, k, q, hT, hM, ht, ho, hJ⟩ := st_at 1 z y p1 p2 hI.1
    exact ⟨z1, y1, k, q, k, hT, hM, ht, (fun n0 n1 n2 n3 => n3 (by rw [ho n1, if_pos n2]; exact cmp_0.mpr rfl)), (fun n0 n1 n2 n3 => n3 (by rw [ho n1, if_neg n2]; exact cmp_0.mpr rfl)), (fun n0 => n0 rfl), trivial⟩), (fun z y p1 p2 p3 p4 hI => by
    obtain ⟨z1, y1, k, q, hT, hM, hq, hJ⟩ := st_write_F z y  hI.1
    exact ⟨z1, y1, k, q, hT, hM, (fun n0 => n0 hq), trivial⟩), (fun z y p1 p2 p3 p4 hI => by
    obtain ⟨z1, y1, k, q, hT, hM, ht, ho, hJ⟩ := st_byteAt 1 z y p1 hI.1
    exact ⟨z1, y1, k, q, k, hT, hM, ht, (fun n0 n1 n2 => n2 (by rw [ho n1]; exact cmp_0.mpr rfl)), (fun n0 => n0 rfl), trivial⟩), (fun z y p1 p2 p3 p4 hI => by
    obtain ⟨z1, y1, k, q, hT, hM, ht, ho, hJ⟩ := st_feed 1 z y p1 hI.1
    exact ⟨z1, y1, k, q, k, hT, hM, ht, (fun n0 n1 n2 => n2 (by rw [ho n1]; exact cmp_0.mpr rfl)), (fun n0 => n0 rfl), trivial⟩), (fun z y p1 p2 p3 p4 hI => by
    obtain ⟨z1, y1, k, q, hT, hM, ht, ho, hJ⟩ := st_pass 1 z y  hI.1
    exact ⟨z1, y1, k, q, k, hT, hM, ht, (fun n0 n1 n2 => n2 (by rw [ho n1]; exact cmp_0.mpr rfl)), (fun n0 => n0 rfl), trivial⟩), (fun z y p1 p2 p3 p4 hI => by
    obtain ⟨z1, y1, k, sw, q, hT, hM, hq, hJ⟩ := st_read_F z y  hI.1
    exact ⟨z1, y1, k, sw, q, hT, hM, (fun n0 => n0 hq), trivial⟩), (fun z y p1 p2 p3 p4 hI => by
    obtain ⟨z1, y1, k, q, hT, hM, ht, ho, hJ⟩ := st_place 1 z y p1 p2 hI.1
    exact ⟨z1, y1, k, q, k, hT, hM, ht, (fun n0 n1 n2 => n2 (by rw [ho n1]; exact cmp_0.mpr rfl)), (fun n0 => n0 rfl), trivial⟩), (fun z y p1 p2 p3 p4 hI => by
    obtain ⟨y1, k, q, hT, hM, hJ⟩ := st_told 1 z y p1 hI.1
    have hq := told_same hI hT hM
    exact ⟨y1, k, q, hT, hM, (fun n0 => n0 hq), trivial⟩), (fun z y p1 p2 p3 p4 hI => by
    obtain ⟨z1, y1, hT, hM, hJ⟩ := st_clear 1 z y  hI.1
    exact ⟨z1, y1, hT, hM, trivial⟩)⟩
theorem neverC (J : TS → MS → Prop) : StepsC (fun _ _ => False) J := ⟨fun _ _ _ _ _ _ h => h.elim, fun _ _ _ _ _ _ h => h.elim, fun _ _ _ _ _ _ h => h.elim, fun _ _ _ _ _ _ h => h.elim, fun _ _ _ _ _ _ h => h.elim, fun _ _ _ _ _ _ h => h.elim, fun _ _ _ _ _ _ h => h.elim, fun _ _ _ _ _ _ h => h.elim, fun _ _ _ _ _ _ h => h.elim, fun _ _ _ _ _ _ h => h.elim, fun _ _ _ _ _ _ h => h.elim, fun _ _ _ _ _ _ h => h.elim, fun _ _ _ _ _ _ h => h.elim, fun _ _ _ _ _ _ h => h.elim, fun _ _ _ _ _ _ h => h.elim, fun _ _ _ _ _ _ h => h.elim⟩
theorem neverF (J : TS → MS → Prop) : StepsF (fun _ _ => False) J := ⟨fun _ _ _ _ _ _ h => h.elim, fun _ _ _ _ _ _ h => h.elim, fun _ _ _ _ _ _ h => h.elim, fun _ _ _ _ _ _ h => h.elim, fun _ _ _ _ _ _ h => h.elim, fun _ _ _ _ _ _ h => h.elim, fun _ _ _ _ _ _ h => h.elim, fun _ _ _ _ _ _ h => h.elim, fun _ _ _ _ _ _ h => h.elim, fun _ _ _ _ _ _ h => h.elim, fun _ _ _ _ _ _ h => h.elim, fun _ _ _ _ _ _ h => h.elim, fun _ _ _ _ _ _ h => h.elim, fun _ _ _ _ _ _ h => h.elim, fun _ _ _ _ _ _ h => h.elim, fun _ _ _ _ _ _ h => h.elim⟩
def I1 (kd : Int32) : Nat → TS → MS → Prop
  | 0 => fun _ _ => True
  | 1 => fun z y => II kd z y ∧ TD z y
  | _ + 2 => fun _ _ => False
theorem I1_down (kd : Int32) : ∀ (n : Nat) (z : TS) (y : MS), I1 kd (n + 1) z y → I1 kd n z y
  | 0, _, _, _ => trivial
  | _ + 1, _, _, h => False.elim h
theorem stepsC : ∀ n : Nat, StepsC (I1 0 (n + 1)) (I1 0 n)
  | 0 => firstC
  | n + 1 => neverC (I1 0 (n + 1))
theorem stepsF : ∀ n : Nat, StepsF (I1 1 (n + 1)) (I1 1 n)
  | 0 => firstF
  | n + 1 => neverF (I1 1 (n + 1))
