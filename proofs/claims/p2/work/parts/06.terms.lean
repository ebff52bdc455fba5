def f_Top_isWithin (p0 : Int32) (p1 : Int32) (p2 : Int32) : Option (Int32) :=
  if p0 < p1 then
    some (0 : Int32)
  else
    if p2 < p0 then
      some (0 : Int32)
    else
      some (1 : Int32)


def f_Top_isPlace (p0 : Int32) : Option (Int32) :=
  bd (f_Top_isWithin p0 (-8 : Int32) (31 : Int32)) fun r_1 =>
  bz r_1 <|
  some r_1


def f_Top_nearest (p0 : Int32) (p1 : Int32) (p2 : Int32) : Option (Int32) :=
  some (if p1 < (if p0 < p2 then p0 else p2) then (if p0 < p2 then p0 else p2) else p1)


def f_Top_withBit (p0 : Int64) (p1 : Int32) (p2 : Int32) : Option (Int64) :=
  if p2 = 0 then
    some (p0 &&& (((1 : Int64) <<< ((p1).toInt64 &&& 63)) ^^^ (-1 : Int64)))
  else
    some (p0 ||| ((1 : Int64) <<< ((p1).toInt64 &&& 63)))


def f_Top_hasBit (p0 : Int64) (p1 : Int32) : Option (Int32) :=
  if (lg_cmp ((((p0).toUInt64 >>> (((p1).toInt64).toUInt64 &&& Int64.toUInt64 63)).toInt64) &&& (1 : Int64)) (0 : Int64)) = 0 then
    some (0 : Int32)
  else
    some (1 : Int32)


def f_Dictionary_add (di_count : Int32) (di_widths : (Nat → Int32)) (di_heights : (Nat → Int32)) (di_samples : (Nat → Int64)) (p0 : Int32) (p1 : Int32) : Option (Int32 × Int32 × (Nat → Int32) × (Nat → Int32) × (Nat → Int64)) :=
  gq di_count 16 <|
  gq di_count 16 <|
  gq di_count 16 <|
  nl (di_count + (1 : Int32)) fun count_1 =>
  some ((count_1 - (1 : Int32)), count_1, (upd di_widths (di_count).toNatClampNeg p0), (upd di_heights (di_count).toNatClampNeg p1), (vp_updL di_samples (di_count).toNatClampNeg (0 : Int64)))


def f_Dictionary_has (di_count : Int32) (p0 : Int32) : Option (Int32) :=
  bd (f_Top_isWithin p0 (0 : Int32) (di_count - (1 : Int32))) fun r_1 =>
  bz r_1 <|
  some r_1


def f_Dictionary_hasSample (di_widths : (Nat → Int32)) (di_heights : (Nat → Int32)) (p0 : Int32) (p1 : Int32) (p2 : Int32) : Option (Int32) :=
  gq p0 16 <|
  bd (f_Top_isWithin p1 (0 : Int32) ((di_widths (p0).toNatClampNeg) - (1 : Int32))) fun r_1 =>
  if r_1 = 0 then
    some (0 : Int32)
  else
    gq p0 16 <|
    bd (f_Top_isWithin p2 (0 : Int32) ((di_heights (p0).toNatClampNeg) - (1 : Int32))) fun r_2 =>
    if r_2 = 0 then
      some (0 : Int32)
    else
      some (1 : Int32)


def f_Dictionary_sampleNumber (di_widths : (Nat → Int32)) (p0 : Int32) (p1 : Int32) (p2 : Int32) : Option (Int32) :=
  gq p0 16 <|
  some ((p2 * (di_widths (p0).toNatClampNeg)) + p1)


def f_Dictionary_sampleCount (di_widths : (Nat → Int32)) (di_heights : (Nat → Int32)) (p0 : Int32) : Option (Int32) :=
  gq p0 16 <|
  gq p0 16 <|
  some ((di_widths (p0).toNatClampNeg) * (di_heights (p0).toNatClampNeg))

