set_option maxRecDepth 20000 in
theorem stepsC : StepsC (II 0) := ⟨(fun z y p1 p2 p3 p4 hI => by
    obtain ⟨z1, y1, k, q, hT, hM, ht, ho, hJ⟩ := st_symbol 0 z y p1 p2 hI
    exact ⟨z1, y1, k, q, hT, hM, hJ⟩), (fun z y p1 p2 p3 p4 hI => by
    obtain ⟨z1, y1, k, q, hT, hM, ht, ho, hJ⟩ := st_put 0 z y p1 p2 p3 (if p4 = 0 then (0 : Int32) else 1) (by by_cases c : p4 = 0 <;> simp [c]) hI
    exact ⟨z1, y1, k, q, hT, hM, hJ⟩), (fun z y p1 p2 p3 p4 hI => by
    obtain ⟨z1, y1, k, q, hT, hM, ht, ho, hJ⟩ := st_instance 0 z y p1 p2 p3 hI
    exact ⟨z1, y1, k, q, hT, hM, hJ⟩), (fun z y p1 p2 p3 p4 hI => by
    obtain ⟨z1, y1, k, q, hT, hM, ht, ho, hJ⟩ := st_refine 0 z y p1 p2 p3 (if p4 = 0 then (0 : Int32) else 1) (by by_cases c : p4 = 0 <;> simp [c]) hI
    exact ⟨z1, y1, k, q, hT, hM, hJ⟩), (fun z y p1 p2 p3 p4 hI => by
    obtain ⟨z1, y1, k, q, hT, hM, ht, ho, hJ⟩ := st_way 0 z y p1 p2 hI
    exact ⟨z1, y1, k, q, hT, hM, hJ⟩), (fun z y p1 p2 p3 p4 hI => by
    obtain ⟨z1, y1, k, q, hT, hM, ht, ho, hJ⟩ := st_order_C z y p1 hI
    exact ⟨z1, y1, k, q, hT, hM, hJ⟩), (fun z y p1 p2 p3 p4 hI => by
    obtain ⟨z1, y1, k, q, hT, hM, hq, hJ⟩ := st_compose 0 z y  hI
    exact ⟨z1, y1, k, q, hT, hM, hJ⟩), (fun z y p1 p2 p3 p4 hI => by
    obtain ⟨z1, y1, k, q, hT, hM, ht, ho, hJ⟩ := st_at 0 z y p1 p2 hI
    exact ⟨z1, y1, k, q, hT, hM, hJ⟩), (fun z y p1 p2 p3 p4 hI => by
    obtain ⟨z1, y1, k, q, hT, hM, hq, hJ⟩ := st_write_C z y  hI
    exact ⟨z1, y1, k, q, hT, hM, hJ⟩), (fun z y p1 p2 p3 p4 hI => by
    obtain ⟨z1, y1, k, q, hT, hM, ht, ho, hJ⟩ := st_byteAt 0 z y p1 hI
    exact ⟨z1, y1, k, q, hT, hM, hJ⟩), (fun z y p1 p2 p3 p4 hI => by
    obtain ⟨z1, y1, k, q, hT, hM, ht, ho, hJ⟩ := st_feed 0 z y p1 hI
    exact ⟨z1, y1, k, q, hT, hM, hJ⟩), (fun z y p1 p2 p3 p4 hI => by
    obtain ⟨z1, y1, k, q, hT, hM, ht, ho, hJ⟩ := st_pass 0 z y  hI
    exact ⟨z1, y1, k, q, hT, hM, hJ⟩), (fun z y p1 p2 p3 p4 hI => by
    obtain ⟨z1, y1, k, sw, q, hT, hM, hq, hJ⟩ := st_read_C z y  hI
    exact ⟨z1, y1, k, sw, q, hT, hM, hJ⟩), (fun z y p1 p2 p3 p4 hI => by
    obtain ⟨z1, y1, k, q, hT, hM, ht, ho, hJ⟩ := st_place 0 z y p1 p2 hI
    exact ⟨z1, y1, k, q, k, hT, hM, ht, (fun n0 n1 n2 => n2 (by rw [ho n1]; exact cmp_0.mpr rfl)), (fun n0 => n0 rfl), hJ⟩), (fun z y p1 p2 p3 p4 hI => by
    obtain ⟨y1, k, q, hT, hM, hJ⟩ := st_told 0 z y p1 hI
    exact ⟨y1, k, q, hT, hM, hJ⟩), (fun z y p1 p2 p3 p4 hI => by
    obtain ⟨z1, y1, hT, hM, hJ⟩ := st_clear 0 z y  hI
    exact ⟨z1, y1, hT, hM, hJ⟩)⟩
set_option maxRecDepth 20000 in
theorem stepsF : StepsF (II 1) := ⟨(fun z y p1 p2 p3 p4 hI => by
    obtain ⟨z1, y1, k, q, hT, hM, ht, ho, hJ⟩ := st_symbol 1 z y p1 p2 hI
    exact ⟨z1, y1, k, q, hT, hM, hJ⟩), (fun z y p1 p2 p3 p4 hI => by
    obtain ⟨z1, y1, k, q, hT, hM, ht, ho, hJ⟩ := st_put 1 z y p1 p2 p3 (if p4 = 0 then (0 : Int32) else 1) (by by_cases c : p4 = 0 <;> simp [c]) hI
    exact ⟨z1, y1, k, q, hT, hM, hJ⟩), (fun z y p1 p2 p3 p4 hI => by
    obtain ⟨z1, y1, k, q, hT, hM, ht, ho, hJ⟩ := st_instance 1 z y p1 p2 p3 hI
    exact ⟨z1, y1, k, q, hT, hM, hJ⟩), (fun z y p1 p2 p3 p4 hI => by
    obtain ⟨z1, y1, k, q, hT, hM, ht, ho, hJ⟩ := st_refine 1 z y p1 p2 p3 (if p4 = 0 then (0 : Int32) else 1) (by by_cases c : p4 = 0 <;> simp [c]) hI
    exact ⟨z1, y1, k, q, hT, hM, hJ⟩), (fun z y p1 p2 p3 p4 hI => by
    obtain ⟨z1, y1, k, q, hT, hM, ht, ho, hJ⟩ := st_way 1 z y p1 p2 hI
    exact ⟨z1, y1, k, q, hT, hM, hJ⟩), (fun z y p1 p2 p3 p4 hI => by
    obtain ⟨z1, y1, k, q, hT, hM, ht, ho, hJ⟩ := st_order_F z y p1 hI
    exact ⟨z1, y1, k, q, hT, hM, hJ⟩), (fun z y p1 p2 p3 p4 hI => by
    obtain ⟨z1, y1, k, q, hT, hM, hq, hJ⟩ := st_compose 1 z y  hI
    exact ⟨z1, y1, k, q, hT, hM, hJ⟩), (fun z y p1 p2 p3 p4 hI => by
    obtain ⟨z1, y1, k, q, hT, hM, ht, ho, hJ⟩ := st_at 1 z y p1 p2 hI
    exact ⟨z1, y1, k, q, hT, hM, hJ⟩), (fun z y p1 p2 p3 p4 hI => by
    obtain ⟨z1, y1, k, q, hT, hM, hq, hJ⟩ := st_write_F z y  hI
    exact ⟨z1, y1, k, q, hT, hM, hJ⟩), (fun z y p1 p2 p3 p4 hI => by
    obtain ⟨z1, y1, k, q, hT, hM, ht, ho, hJ⟩ := st_byteAt 1 z y p1 hI
    exact ⟨z1, y1, k, q, hT, hM, hJ⟩), (fun z y p1 p2 p3 p4 hI => by
    obtain ⟨z1, y1, k, q, hT, hM, ht, ho, hJ⟩ := st_feed 1 z y p1 hI
    exact ⟨z1, y1, k, q, hT, hM, hJ⟩), (fun z y p1 p2 p3 p4 hI => by
    obtain ⟨z1, y1, k, q, hT, hM, ht, ho, hJ⟩ := st_pass 1 z y  hI
    exact ⟨z1, y1, k, q, hT, hM, hJ⟩), (fun z y p1 p2 p3 p4 hI => by
    obtain ⟨z1, y1, k, sw, q, hT, hM, hq, hJ⟩ := st_read_F z y  hI
    exact ⟨z1, y1, k, sw, q, hT, hM, hJ⟩), (fun z y p1 p2 p3 p4 hI => by
    obtain ⟨z1, y1, k, q, hT, hM, ht, ho, hJ⟩ := st_place 1 z y p1 p2 hI
    exact ⟨z1, y1, k, q, k, hT, hM, ht, (fun n0 n1 n2 => n2 (by rw [ho n1]; exact cmp_0.mpr rfl)), (fun n0 => n0 rfl), hJ⟩), (fun z y p1 p2 p3 p4 hI => by
    obtain ⟨y1, k, q, hT, hM, hJ⟩ := st_told 1 z y p1 hI
    exact ⟨y1, k, q, hT, hM, hJ⟩), (fun z y p1 p2 p3 p4 hI => by
    obtain ⟨z1, y1, hT, hM, hJ⟩ := st_clear 1 z y  hI
    exact ⟨z1, y1, hT, hM, hJ⟩)⟩
