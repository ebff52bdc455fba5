theorem bo_code : Cond.code objectInit ⟨#[0xb1]⟩ 1 none ∈ BIG := inT 28 (by decide +kernel)
theorem bo_inst : Cond.instanceMethod objectInit ∈ BIG := inT 27 (by decide +kernel)
def ng {α : Type} (v : Int32) (k : Option α) : Option α := if v < 0 ∨ 1000 < v.toNatClampNeg then none else k
theorem ng_e {α : Type} {v : Int32} {k : Option α} {o : α} (h : ng v k = some o) : ¬ v < 0 ∧ v.toNatClampNeg ≤ 1000 ∧ k = some o := by
  unfold ng at h
  by_cases c : v < 0 ∨ 1000 < v.toNatClampNeg
  · rw [if_pos c] at h; cases h
  · rw [if_neg c] at h; exact ⟨fun z => c (Or.inl z), Nat.not_lt.mp (fun z => c (Or.inr z)), h⟩
theorem s_le {a n m r : Nat} (h : n ≤ m) (h2 : a + m ≤ r) : a + n ≤ r := by omega
def f_Dictionary_init : Option (Unit) :=
  some ()


def f_Page_init (p0 : Int32) (p1 : Int32) : Option (Unit) :=
  ng (p0 * p1) <|
  some ()


def f_ByteRow_init : Option (Unit) :=
  some ()


def f_CodeNames_init : Option (Unit) :=
  some ()


def f_FrontNames_init : Option (Unit) :=
  some ()


def f_BitWriter_init : Option (Unit) :=
  some ()


def f_BitReader_init : Option (Unit) :=
  some ()


def f_Layout_init : Option (Unit) :=
  some ()


def f_Teller_init_C : Option (Unit) :=
  some ()


def f_Reader_init_C : Option (Unit) :=
  some ()


def f_Teller_init_F : Option (Unit) :=
  some ()


def f_Reader_init_F : Option (Unit) :=
  some ()


def f_Top_init_C (p0 : Int32) (p1 : Int32) (p2 : Int32) : Option (Int32 × Int32 × Int32) :=
  bd (f_Top_nearest p2 (0 : Int32) (1 : Int32)) fun r_1 =>
  bd (f_Dictionary_init) fun _ =>
  bd (f_Top_nearest p0 (1 : Int32) (24 : Int32)) fun r_2 =>
  bd (f_Top_nearest p1 (1 : Int32) (24 : Int32)) fun r_3 =>
  bd (f_Page_init r_2 r_3) fun _ =>
  bd (f_ByteRow_init) fun _ =>
  bd (f_ByteRow_init) fun _ =>
  if r_1 = 0 then
    bd (f_CodeNames_init) fun _ =>
    bd (f_BitWriter_init) fun _ =>
    bd (f_Teller_init_C) fun _ =>
    bd (f_BitReader_init) fun _ =>
    bd (f_Reader_init_C) fun _ =>
    bd (f_Layout_init) fun _ =>
    bd (f_Layout_init) fun _ =>
    some (r_1, r_2, r_3)
  else
    none


def f_Top_init_F (p0 : Int32) (p1 : Int32) (p2 : Int32) : Option (Int32 × Int32 × Int32) :=
  bd (f_Top_nearest p2 (0 : Int32) (1 : Int32)) fun r_1 =>
  bd (f_Dictionary_init) fun _ =>
  bd (f_Top_nearest p0 (1 : Int32) (24 : Int32)) fun r_2 =>
  bd (f_Top_nearest p1 (1 : Int32) (24 : Int32)) fun r_3 =>
  bd (f_Page_init r_2 r_3) fun _ =>
  bd (f_ByteRow_init) fun _ =>
  bd (f_ByteRow_init) fun _ =>
  if r_1 = 0 then
    none
  else
    bd (f_FrontNames_init) fun _ =>
    bd (f_BitWriter_init) fun _ =>
    bd (f_Teller_init_F) fun _ =>
    bd (f_BitReader_init) fun _ =>
    bd (f_Reader_init_F) fun _ =>
    bd (f_Layout_init) fun _ =>
    bd (f_Layout_init) fun _ =>
    some (r_1, r_2, r_3)


def f_Mo_init (p0 : Int32) (p1 : Int32) (p2 : Int32) : Option (Int32 × Int32 × Int32) :=
  bd (f_Mo_within p0 (1 : Int32) (24 : Int32)) fun r_1 =>
  bd (f_Mo_within p1 (1 : Int32) (24 : Int32)) fun r_2 =>
  bd (f_Mo_within p2 (0 : Int32) (1 : Int32)) fun r_3 =>
  some (r_1, r_2, r_3)

