def f_Top_isWithin (p0 : Int32) (p1 : Int32) (p2 : Int32) : Option (Int32) :=
  if p0 < p1 then
    some (0 : Int32)
  else
    if p2 < p0 then
      some (0 : Int32)
    else
      some (1 : Int32)


def f_Top_isPlace (p0 : Int32) : Option (Int32) :=
  bd (f_Top_isWithin p0 (-8 : Int32) (31 : Int32)) fun r_1 =>
  bz r_1 <|
  some r_1


def f_Top_nearest (p0 : Int32) (p1 : Int32) (p2 : Int32) : Option (Int32) :=
  some (if p1 < (if p0 < p2 then p0 else p2) then (if p0 < p2 then p0 else p2) else p1)


def f_Top_withBit (p0 : Int64) (p1 : Int32) (p2 : Int32) : Option (Int64) :=
  if p2 = 0 then
    some (p0 &&& (((1 : Int64) <<< ((p1).toInt64 &&& 63)) ^^^ (-1 : Int64)))
  else
    some (p0 ||| ((1 : Int64) <<< ((p1).toInt64 &&& 63)))


def f_Top_hasBit (p0 : Int64) (p1 : Int32) : Option (Int32) :=
  if (lg_cmp ((((p0).toUInt64 >>> (((p1).toInt64).toUInt64 &&& Int64.toUInt64 63)).toInt64) &&& (1 : Int64)) (0 : Int64)) = 0 then
    some (0 : Int32)
  else
    some (1 : Int32)


def f_Dictionary_add (di_count : Int32) (di_widths : (Nat → Int32)) (di_heights : (Nat → Int32)) (di_samples : (Nat → Int64)) (p0 : Int32) (p1 : Int32) : Option (Int32 × Int32 × (Nat → Int32) × (Nat → Int32) × (Nat → Int64)) :=
  gq di_count 16 <|
  gq di_count 16 <|
  gq di_count 16 <|
  nl (di_count + (1 : Int32)) fun count_1 =>
  some ((count_1 - (1 : Int32)), count_1, (upd di_widths (di_count).toNatClampNeg p0), (upd di_heights (di_count).toNatClampNeg p1), (vp_updL di_samples (di_count).toNatClampNeg (0 : Int64)))


def f_Dictionary_has (di_count : Int32) (p0 : Int32) : Option (Int32) :=
  bd (f_Top_isWithin p0 (0 : Int32) (di_count - (1 : Int32))) fun r_1 =>
  bz r_1 <|
  some r_1


def f_Dictionary_hasSample (di_widths : (Nat → Int32)) (di_heights : (Nat → Int32)) (p0 : Int32) (p1 : Int32) (p2 : Int32) : Option (Int32) :=
  gq p0 16 <|
  bd (f_Top_isWithin p1 (0 : Int32) ((di_widths (p0).toNatClampNeg) - (1 : Int32))) fun r_1 =>
  if r_1 = 0 then
    some (0 : Int32)
  else
    gq p0 16 <|
    bd (f_Top_isWithin p2 (0 : Int32) ((di_heights (p0).toNatClampNeg) - (1 : Int32))) fun r_2 =>
    if r_2 = 0 then
      some (0 : Int32)
    else
      some (1 : Int32)


def f_Dictionary_sampleNumber (di_widths : (Nat → Int32)) (p0 : Int32) (p1 : Int32) (p2 : Int32) : Option (Int32) :=
  gq p0 16 <|
  some ((p2 * (di_widths (p0).toNatClampNeg)) + p1)


def f_Dictionary_sampleCount (di_widths : (Nat → Int32)) (di_heights : (Nat → Int32)) (p0 : Int32) : Option (Int32) :=
  gq p0 16 <|
  gq p0 16 <|
  some ((di_widths (p0).toNatClampNeg) * (di_heights (p0).toNatClampNeg))


def f_Layout_empty_L7 (self7 : Int32 × (Nat → Int32) → Option (Int32 × (Nat → Int32))) : Int32 × (Nat → Int32) → Option (Int32 × (Nat → Int32))
  | (v1_1, la_ways_2) =>
  if (4 : Int32) ≤ v1_1 then
    some ((0 : Int32), la_ways_2)
  else
    gq v1_1 4 <|
    nl (v1_1 + (1 : Int32)) fun v1_3 =>
    self7 (v1_3, (upd la_ways_2 (v1_1).toNatClampNeg (0 : Int32)))

def f_Layout_empty (la_ways : (Nat → Int32)) : Option (Int32 × (Nat → Int32)) :=
  lp (f_Layout_empty_L7) FU ((0 : Int32), la_ways)


def f_Layout_has (la_count : Int32) (p0 : Int32) : Option (Int32) :=
  bd (f_Top_isWithin p0 (0 : Int32) (la_count - (1 : Int32))) fun r_1 =>
  bz r_1 <|
  some r_1


def f_Layout_add (la_count : Int32) (la_symbolOf : (Nat → Int32)) (la_xs : (Nat → Int32)) (la_ys : (Nat → Int32)) (la_differs : (Nat → Int64)) (p0 : Int32) (p1 : Int32) (p2 : Int32) : Option (Int32 × Int32 × (Nat → Int32) × (Nat → Int32) × (Nat → Int32) × (Nat → Int64)) :=
  gq la_count 40 <|
  gq la_count 40 <|
  gq la_count 40 <|
  gq la_count 40 <|
  nl (la_count + (1 : Int32)) fun count_1 =>
  some ((count_1 - (1 : Int32)), count_1, (upd la_symbolOf (la_count).toNatClampNeg p0), (upd la_xs (la_count).toNatClampNeg p1), (upd la_ys (la_count).toNatClampNeg p2), (vp_updL la_differs (la_count).toNatClampNeg (0 : Int64)))


def f_Layout_isTurned (la_ways : (Nat → Int32)) : Option (Int32) :=
  gq (1 : Int32) 4 <|
  if (la_ways ((1 : Int32)).toNatClampNeg) = 0 then
    some (0 : Int32)
  else
    some (1 : Int32)


def f_Layout_cornerColumn (la_ways : (Nat → Int32)) (di_widths : (Nat → Int32)) (p0 : Int32) : Option (Int32) :=
  gq (0 : Int32) 4 <|
  if (la_ways ((0 : Int32)).toNatClampNeg) < (2 : Int32) then
    some (0 : Int32)
  else
    gq p0 16 <|
    some ((di_widths (p0).toNatClampNeg) - (1 : Int32))


def f_Layout_cornerRow (la_ways : (Nat → Int32)) (di_heights : (Nat → Int32)) (p0 : Int32) : Option (Int32) :=
  gq (0 : Int32) 4 <|
  if ((la_ways ((0 : Int32)).toNatClampNeg) - (la_ways ((0 : Int32)).toNatClampNeg) / (2 : Int32) * (2 : Int32)) = (1 : Int32) then
    gq p0 16 <|
    some ((di_heights (p0).toNatClampNeg) - (1 : Int32))
  else
    some (0 : Int32)


def f_Layout_addByCorner (la_count : Int32) (la_ways : (Nat → Int32)) (di_widths : (Nat → Int32)) (di_heights : (Nat → Int32)) (la_symbolOf : (Nat → Int32)) (la_xs : (Nat → Int32)) (la_ys : (Nat → Int32)) (la_differs : (Nat → Int64)) (p0 : Int32) (p1 : Int32) (p2 : Int32) : Option (Int32 × Int32 × (Nat → Int32) × (Nat → Int32) × (Nat → Int32) × (Nat → Int64)) :=
  bd (f_Layout_isTurned la_ways) fun r_1 =>
  jn (fun (s_2 : Int32) =>
      bd (f_Layout_cornerColumn la_ways di_widths p0) fun r_3 =>
      nl (s_2 - r_3) fun v4_4 =>
      bd (f_Layout_isTurned la_ways) fun r_5 =>
      jn (fun (s_6 : Int32) =>
          bd (f_Layout_cornerRow la_ways di_heights p0) fun r_7 =>
          nl (s_6 - r_7) fun v5_8 =>
          if (40 : Int32) ≤ la_count then
            some ((0 : Int32), la_count, la_symbolOf, la_xs, la_ys, la_differs)
          else
            bd (f_Top_isPlace v4_4) fun r_9 =>
            if r_9 = 0 then
              some ((0 : Int32), la_count, la_symbolOf, la_xs, la_ys, la_differs)
            else
              bd (f_Top_isPlace v5_8) fun r_10 =>
              if r_10 = 0 then
                some ((0 : Int32), la_count, la_symbolOf, la_xs, la_ys, la_differs)
              else
                bd (f_Layout_add la_count la_symbolOf la_xs la_ys la_differs p0 v4_4 v5_8) fun (r_11, la_count_12, la_symbolOf_13, la_xs_14, la_ys_15, la_differs_16) =>
                some ((1 : Int32), la_count_12, la_symbolOf_13, la_xs_14, la_ys_15, la_differs_16)) fun j32 =>
      if r_5 = 0 then
        j32 p2
      else
        j32 p1) fun j12 =>
  if r_1 = 0 then
    j12 p1
  else
    j12 p2


def f_Layout_swapWithNext (la_symbolOf : (Nat → Int32)) (la_xs : (Nat → Int32)) (la_ys : (Nat → Int32)) (la_differs : (Nat → Int64)) (p0 : Int32) : Option ((Nat → Int32) × (Nat → Int32) × (Nat → Int32) × (Nat → Int64)) :=
  gq p0 40 <|
  nl (la_symbolOf (p0).toNatClampNeg) fun v2_1 =>
  gq p0 40 <|
  nl (la_xs (p0).toNatClampNeg) fun v3_2 =>
  gq p0 40 <|
  nl (la_ys (p0).toNatClampNeg) fun v4_3 =>
  gq p0 40 <|
  nl (la_differs (p0).toNatClampNeg) fun v5_4 =>
  gq (p0 + (1 : Int32)) 40 <|
  nl (la_symbolOf ((p0 + (1 : Int32))).toNatClampNeg) fun w_5 =>
  gq p0 40 <|
  gq (p0 + (1 : Int32)) 40 <|
  nl (la_xs ((p0 + (1 : Int32))).toNatClampNeg) fun w_6 =>
  gq p0 40 <|
  gq (p0 + (1 : Int32)) 40 <|
  nl (la_ys ((p0 + (1 : Int32))).toNatClampNeg) fun w_7 =>
  gq p0 40 <|
  gq (p0 + (1 : Int32)) 40 <|
  nl (la_differs ((p0 + (1 : Int32))).toNatClampNeg) fun w_8 =>
  gq p0 40 <|
  gq (p0 + (1 : Int32)) 40 <|
  gq (p0 + (1 : Int32)) 40 <|
  gq (p0 + (1 : Int32)) 40 <|
  gq (p0 + (1 : Int32)) 40 <|
  some ((upd (upd la_symbolOf (p0).toNatClampNeg w_5) ((p0 + (1 : Int32))).toNatClampNeg v2_1), (upd (upd la_xs (p0).toNatClampNeg w_6) ((p0 + (1 : Int32))).toNatClampNeg v3_2), (upd (upd la_ys (p0).toNatClampNeg w_7) ((p0 + (1 : Int32))).toNatClampNeg v4_3), (vp_updL (vp_updL la_differs (p0).toNatClampNeg w_8) ((p0 + (1 : Int32))).toNatClampNeg v5_4))


def f_Layout_cornerS (la_ways : (Nat → Int32)) (la_xs : (Nat → Int32)) (la_symbolOf : (Nat → Int32)) (di_widths : (Nat → Int32)) (la_ys : (Nat → Int32)) (di_heights : (Nat → Int32)) (p0 : Int32) : Option (Int32) :=
  bd (f_Layout_isTurned la_ways) fun r_1 =>
  if r_1 = 0 then
    gq p0 40 <|
    gq p0 40 <|
    bd (f_Layout_cornerColumn la_ways di_widths (la_symbolOf (p0).toNatClampNeg)) fun r_2 =>
    some ((la_xs (p0).toNatClampNeg) + r_2)
  else
    gq p0 40 <|
    gq p0 40 <|
    bd (f_Layout_cornerRow la_ways di_heights (la_symbolOf (p0).toNatClampNeg)) fun r_3 =>
    some ((la_ys (p0).toNatClampNeg) + r_3)


def f_Layout_cornerT (la_ways : (Nat → Int32)) (la_ys : (Nat → Int32)) (la_symbolOf : (Nat → Int32)) (di_heights : (Nat → Int32)) (la_xs : (Nat → Int32)) (di_widths : (Nat → Int32)) (p0 : Int32) : Option (Int32) :=
  bd (f_Layout_isTurned la_ways) fun r_1 =>
  if r_1 = 0 then
    gq p0 40 <|
    gq p0 40 <|
    bd (f_Layout_cornerRow la_ways di_heights (la_symbolOf (p0).toNatClampNeg)) fun r_2 =>
    some ((la_ys (p0).toNatClampNeg) + r_2)
  else
    gq p0 40 <|
    gq p0 40 <|
    bd (f_Layout_cornerColumn la_ways di_widths (la_symbolOf (p0).toNatClampNeg)) fun r_3 =>
    some ((la_xs (p0).toNatClampNeg) + r_3)


def f_Layout_strip (la_ways : (Nat → Int32)) (la_ys : (Nat → Int32)) (la_symbolOf : (Nat → Int32)) (di_heights : (Nat → Int32)) (la_xs : (Nat → Int32)) (di_widths : (Nat → Int32)) (p0 : Int32) : Option (Int32) :=
  bd (f_Layout_cornerT la_ways la_ys la_symbolOf di_heights la_xs di_widths p0) fun r_1 =>
  gq (2 : Int32) 4 <|
  some (r_1 >>> ((la_ways ((2 : Int32)).toNatClampNeg) &&& 31))


def f_Layout_nextS (la_symbolOf : (Nat → Int32)) (la_ways : (Nat → Int32)) (la_xs : (Nat → Int32)) (di_widths : (Nat → Int32)) (la_ys : (Nat → Int32)) (di_heights : (Nat → Int32)) (p0 : Int32) : Option (Int32) :=
  gq p0 40 <|
  nl (la_symbolOf (p0).toNatClampNeg) fun v2_1 =>
  bd (f_Layout_cornerS la_ways la_xs la_symbolOf di_widths la_ys di_heights p0) fun r_2 =>
  bd (f_Layout_isTurned la_ways) fun r_3 =>
  if r_3 = 0 then
    gq v2_1 16 <|
    some (r_2 + (di_widths (v2_1).toNatClampNeg))
  else
    gq v2_1 16 <|
    some (r_2 + (di_heights (v2_1).toNatClampNeg))


def f_Layout_arrange_L18 (la_ways : (Nat → Int32)) (la_ys : (Nat → Int32)) (la_symbolOf : (Nat → Int32)) (di_heights : (Nat → Int32)) (la_xs : (Nat → Int32)) (di_widths : (Nat → Int32)) (r_3 : Int32) (k58 : Int32 → (Nat → Int32) → Option ((Nat → Int32))) (self18 : Int32 × (Nat → Int32) → Option ((Nat → Int32))) : Int32 × (Nat → Int32) → Option ((Nat → Int32))
  | (v3_4, la_sequence_5) =>
  if v3_4 ≤ 0 then
    k58 v3_4 la_sequence_5
  else
    gq (v3_4 - (1 : Int32)) 40 <|
    bd (f_Layout_strip la_ways la_ys la_symbolOf di_heights la_xs di_widths (la_sequence_5 ((v3_4 - (1 : Int32))).toNatClampNeg)) fun r_8 =>
    if r_8 ≤ r_3 then
      k58 v3_4 la_sequence_5
    else
      gq (v3_4 - (1 : Int32)) 40 <|
      nl (la_sequence_5 ((v3_4 - (1 : Int32))).toNatClampNeg) fun w_9 =>
      gq v3_4 40 <|
      nl (v3_4 + (-1 : Int32)) fun v3_10 =>
      self18 (v3_10, (upd la_sequence_5 (v3_4).toNatClampNeg w_9))

def f_Layout_arrange_L2 (la_count : Int32) (la_ways : (Nat → Int32)) (la_ys : (Nat → Int32)) (la_symbolOf : (Nat → Int32)) (di_heights : (Nat → Int32)) (la_xs : (Nat → Int32)) (di_widths : (Nat → Int32)) (self2 : Int32 × (Nat → Int32) → Option ((Nat → Int32))) : Int32 × (Nat → Int32) → Option ((Nat → Int32))
  | (v1_1, la_sequence_2) =>
  if la_count ≤ v1_1 then
    some la_sequence_2
  else
    bd (f_Layout_strip la_ways la_ys la_symbolOf di_heights la_xs di_widths v1_1) fun r_3 =>
    lp (f_Layout_arrange_L18 la_ways la_ys la_symbolOf di_heights la_xs di_widths r_3
      (fun (v3_6 : Int32) (la_sequence_7 : (Nat → Int32)) =>
        gq v3_6 40 <|
        nl (v1_1 + (1 : Int32)) fun v1_11 =>
        self2 (v1_11, (upd la_sequence_7 (v3_6).toNatClampNeg v1_1)))) FU (v1_1, la_sequence_2)

def f_Layout_arrange (la_count : Int32) (la_ways : (Nat → Int32)) (la_ys : (Nat → Int32)) (la_symbolOf : (Nat → Int32)) (di_heights : (Nat → Int32)) (la_xs : (Nat → Int32)) (di_widths : (Nat → Int32)) (la_sequence : (Nat → Int32)) : Option ((Nat → Int32)) :=
  lp (f_Layout_arrange_L2 la_count la_ways la_ys la_symbolOf di_heights la_xs di_widths) FU ((0 : Int32), la_sequence)


def f_Page_has (pg_width : Int32) (pg_height : Int32) (p0 : Int32) (p1 : Int32) : Option (Int32) :=
  bd (f_Top_isWithin p0 (0 : Int32) (pg_width - (1 : Int32))) fun r_1 =>
  if r_1 = 0 then
    some (0 : Int32)
  else
    bd (f_Top_isWithin p1 (0 : Int32) (pg_height - (1 : Int32))) fun r_2 =>
    if r_2 = 0 then
      some (0 : Int32)
    else
      some (1 : Int32)


def f_Page_lighten_L2 (n_pg_dark : Nat) (self2 : Int32 × (Nat → Int32) → Option ((Nat → Int32))) : Int32 × (Nat → Int32) → Option ((Nat → Int32))
  | (v1_1, pg_dark_2) =>
  if (Int32.ofNat n_pg_dark) ≤ v1_1 then
    some pg_dark_2
  else
    gq v1_1 n_pg_dark <|
    nl (v1_1 + (1 : Int32)) fun v1_3 =>
    self2 (v1_3, (upd pg_dark_2 (v1_1).toNatClampNeg (vp_nar .boolean (0 : Int32))))

def f_Page_lighten (n_pg_dark : Nat) (pg_dark : (Nat → Int32)) : Option ((Nat → Int32)) :=
  lp (f_Page_lighten_L2 n_pg_dark) FU ((0 : Int32), pg_dark)


def f_Page_countDark_L4 (n_pg_dark : Nat) (pg_dark : (Nat → Int32)) (self4 : Int32 × Int32 → Option (Int32)) : Int32 × Int32 → Option (Int32)
  | (v2_1, v1_2) =>
  if (Int32.ofNat n_pg_dark) ≤ v2_1 then
    some v1_2
  else
    gq v2_1 n_pg_dark <|
    jn (fun (s_3 : Int32) (s_4 : Int32) =>
        nl (s_3 + s_4) fun v1_5 =>
        nl (v2_1 + (1 : Int32)) fun v2_6 =>
        self4 (v2_6, v1_5)) fun j28 =>
    if (pg_dark (v2_1).toNatClampNeg) = 0 then
      j28 v1_2 (0 : Int32)
    else
      j28 v1_2 (1 : Int32)

def f_Page_countDark (n_pg_dark : Nat) (pg_dark : (Nat → Int32)) : Option (Int32) :=
  lp (f_Page_countDark_L4 n_pg_dark pg_dark) FU ((0 : Int32), (0 : Int32))


def f_Page_composed (p0 : Int32) (p1 : Int32) (p2 : Int32) : Option (Int32) :=
  if p2 = (0 : Int32) then
    jn (fun (_ : Unit) =>
        some (1 : Int32)) fun j40 =>
    if p0 = 0 then
      if p1 = 0 then
        some (0 : Int32)
      else
        j40 ()
    else
      j40 ()
  else
  if p2 = (1 : Int32) then
    if p0 = 0 then
      some (0 : Int32)
    else
      if p1 = 0 then
        some (0 : Int32)
      else
        some (1 : Int32)
  else
  if p2 = (2 : Int32) then
    if p0 = p1 then
      some (0 : Int32)
    else
      some (1 : Int32)
  else
  if p2 = (3 : Int32) then
    if p0 = p1 then
      some (1 : Int32)
    else
      some (0 : Int32)
  else
    bz p1 <|
    some p1


def f_Page_laySample (pg_width : Int32) (pg_height : Int32) (n_pg_dark : Nat) (pg_dark : (Nat → Int32)) (p0 : Int32) (p1 : Int32) (p2 : Int32) (p3 : Int32) : Option ((Nat → Int32)) :=
  bd (f_Page_has pg_width pg_height p0 p1) fun r_1 =>
  if r_1 = 0 then
    some pg_dark
  else
    gq ((p1 * pg_width) + p0) n_pg_dark <|
    bd (f_Page_composed (pg_dark (((p1 * pg_width) + p0)).toNatClampNeg) p2 p3) fun r_2 =>
    gq ((p1 * pg_width) + p0) n_pg_dark <|
    some (upd pg_dark (((p1 * pg_width) + p0)).toNatClampNeg (vp_nar .boolean r_2))


def f_Page_lay_L47 (v4_1 : Int32) (di_widths : (Nat → Int32)) (v7_3 : Int32) (v5_2 : Int64) (p1 : Int32) (pg_width : Int32) (pg_height : Int32) (n_pg_dark : Nat) (la_xs : (Nat → Int32)) (la_ys : (Nat → Int32)) (la_ways : (Nat → Int32)) (k112 : (Nat → Int32) → Option ((Nat → Int32))) (self47 : Int32 × (Nat → Int32) → Option ((Nat → Int32))) : Int32 × (Nat → Int32) → Option ((Nat → Int32))
  | (v8_5, pg_dark_6) =>
  gq v4_1 16 <|
  if (di_widths (v4_1).toNatClampNeg) ≤ v8_5 then
    k112 pg_dark_6
  else
    bd (f_Dictionary_sampleNumber di_widths v4_1 v8_5 v7_3) fun r_8 =>
    bd (f_Top_hasBit v5_2 r_8) fun r_9 =>
    gq p1 40 <|
    gq p1 40 <|
    gq (3 : Int32) 4 <|
    bd (f_Page_laySample pg_width pg_height n_pg_dark pg_dark_6 ((la_xs (p1).toNatClampNeg) + v8_5) ((la_ys (p1).toNatClampNeg) + v7_3) r_9 (la_ways ((3 : Int32)).toNatClampNeg)) fun pg_dark_10 =>
    nl (v8_5 + (1 : Int32)) fun v8_11 =>
    self47 (v8_11, pg_dark_10)

def f_Page_lay_L32 (v4_1 : Int32) (di_heights : (Nat → Int32)) (di_widths : (Nat → Int32)) (v5_2 : Int64) (p1 : Int32) (pg_width : Int32) (pg_height : Int32) (n_pg_dark : Nat) (la_xs : (Nat → Int32)) (la_ys : (Nat → Int32)) (la_ways : (Nat → Int32)) (self32 : Int32 × (Nat → Int32) → Option ((Nat → Int32))) : Int32 × (Nat → Int32) → Option ((Nat → Int32))
  | (v7_3, pg_dark_4) =>
  gq v4_1 16 <|
  if (di_heights (v4_1).toNatClampNeg) ≤ v7_3 then
    some pg_dark_4
  else
    lp (f_Page_lay_L47 v4_1 di_widths v7_3 v5_2 p1 pg_width pg_height n_pg_dark la_xs la_ys la_ways
      (fun (pg_dark_7 : (Nat → Int32)) =>
        nl (v7_3 + (1 : Int32)) fun v7_12 =>
        self32 (v7_12, pg_dark_7))) FU ((0 : Int32), pg_dark_4)

def f_Page_lay (pg_width : Int32) (pg_height : Int32) (la_symbolOf : (Nat → Int32)) (di_samples : (Nat → Int64)) (la_differs : (Nat → Int64)) (di_heights : (Nat → Int32)) (di_widths : (Nat → Int32)) (la_xs : (Nat → Int32)) (la_ys : (Nat → Int32)) (la_ways : (Nat → Int32)) (n_pg_dark : Nat) (pg_dark : (Nat → Int32)) (p1 : Int32) : Option ((Nat → Int32)) :=
  gq p1 40 <|
  nl (la_symbolOf (p1).toNatClampNeg) fun v4_1 =>
  gq v4_1 16 <|
  gq p1 40 <|
  nl ((di_samples (v4_1).toNatClampNeg) ^^^ (la_differs (p1).toNatClampNeg)) fun v5_2 =>
  lp (f_Page_lay_L32 v4_1 di_heights di_widths v5_2 p1 pg_width pg_height n_pg_dark la_xs la_ys la_ways) FU ((0 : Int32), pg_dark)


def f_ByteRow_append (br_count : Int32) (br_bytes : (Nat → Int32)) (p0 : Int32) : Option (Int32 × (Nat → Int32)) :=
  if (2000 : Int32) ≤ br_count then
    some (br_count, br_bytes)
  else
    gq br_count 2000 <|
    nl (br_count + (1 : Int32)) fun count_1 =>
    some (count_1, (upd br_bytes (br_count).toNatClampNeg p0))


def f_BitWriter_start (tb_count : Int32) (p0 : Int32) : Option (Int32 × Int32 × Int32) :=
  bz p0 <|
  if p0 = 0 then
    some (p0, (0 : Int32), tb_count)
  else
    some (p0, (0 : Int32), (0 : Int32))


def f_BitWriter_tellBits_L22 (p0 : Int32) (self22 : Int32 × Int32 × Int32 × (Nat → Int32) → Option (Int32 × Int32 × (Nat → Int32))) : Int32 × Int32 × Int32 × (Nat → Int32) → Option (Int32 × Int32 × (Nat → Int32))
  | (v3_2, wr_count_3, tb_count_4, tb_bytes_5) =>
  if v3_2 < 0 then
    some (wr_count_3, tb_count_4, tb_bytes_5)
  else
    jn (fun (tb_count_6 : Int32) (tb_bytes_7 : (Nat → Int32)) =>
        jn (fun (tb_bytes_8 : (Nat → Int32)) =>
            nl (wr_count_3 + (1 : Int32)) fun count_9 =>
            nl (v3_2 + (-1 : Int32)) fun v3_10 =>
            self22 (v3_10, count_9, tb_count_6, tb_bytes_8)) fun j95 =>
        if tb_count_6 ≤ (wr_count_3 / (8 : Int32)) then
          j95 tb_bytes_7
        else
          gq (wr_count_3 / (8 : Int32)) 2000 <|
          nl ((tb_bytes_7 ((wr_count_3 / (8 : Int32))).toNatClampNeg) ||| (((p0 >>> (v3_2 &&& 31)) &&& (1 : Int32)) <<< (((7 : Int32) - (wr_count_3 - wr_count_3 / (8 : Int32) * (8 : Int32))) &&& 31))) fun w_11 =>
          gq (wr_count_3 / (8 : Int32)) 2000 <|
          j95 (upd tb_bytes_7 ((wr_count_3 / (8 : Int32))).toNatClampNeg w_11)) fun j44 =>
    if (wr_count_3 - wr_count_3 / (8 : Int32) * (8 : Int32)) = 0 then
      bd (f_ByteRow_append tb_count_4 tb_bytes_5 (0 : Int32)) fun (tb_count_12, tb_bytes_13) =>
      j44 tb_count_12 tb_bytes_13
    else
      j44 tb_count_4 tb_bytes_5

def f_BitWriter_tellBits (wr_keeping : Int32) (wr_count : Int32) (tb_count : Int32) (tb_bytes : (Nat → Int32)) (p0 : Int32) (p1 : Int32) : Option (Int32 × Int32 × (Nat → Int32)) :=
  if wr_keeping = 0 then
    nl (wr_count + p1) fun count_14 =>
    some (count_14, tb_count, tb_bytes)
  else
    nl (p1 - (1 : Int32)) fun v3_1 =>
    lp (f_BitWriter_tellBits_L22 p0) FU (v3_1, wr_count, tb_count, tb_bytes)


def f_BitWriter_tellNumber_L2 (p0 : Int32) (k24 : Int32 → Option (Int32 × Int32 × (Nat → Int32))) (self2 : Int32 → Option (Int32 × Int32 × (Nat → Int32))) (v2_1 : Int32) : Option (Int32 × Int32 × (Nat → Int32)) :=
  if (12 : Int32) ≤ v2_1 then
    k24 v2_1
  else
    if ((p0 + (1 : Int32)) >>> ((v2_1 + (1 : Int32)) &&& 31)) = 0 then
      k24 v2_1
    else
      nl (v2_1 + (1 : Int32)) fun v2_3 =>
      self2 v2_3

def f_BitWriter_tellNumber (wr_keeping : Int32) (wr_count : Int32) (tb_count : Int32) (tb_bytes : (Nat → Int32)) (p0 : Int32) : Option (Int32 × Int32 × (Nat → Int32)) :=
  lp (f_BitWriter_tellNumber_L2 p0
    (fun (v2_2 : Int32) =>
      bd (f_BitWriter_tellBits wr_keeping wr_count tb_count tb_bytes (p0 + (1 : Int32)) (((2 : Int32) * v2_2) + (1 : Int32))) fun (wr_count_4, tb_count_5, tb_bytes_6) =>
      some (wr_count_4, tb_count_5, tb_bytes_6))) FU (0 : Int32)


def f_BitWriter_tellSigned (wr_keeping : Int32) (wr_count : Int32) (tb_count : Int32) (tb_bytes : (Nat → Int32)) (p0 : Int32) : Option (Int32 × Int32 × (Nat → Int32)) :=
  jn (fun (s_1 : Int32) =>
      bd (f_BitWriter_tellNumber wr_keeping wr_count tb_count tb_bytes s_1) fun (wr_count_2, tb_count_3, tb_bytes_4) =>
      some (wr_count_2, tb_count_3, tb_bytes_4)) fun j17 =>
  if p0 < 0 then
    j17 (((-2 : Int32) * p0) - (1 : Int32))
  else
    j17 ((2 : Int32) * p0)


def f_BitReader_start : Option (Int32 × Int32) :=
  some ((0 : Int32), (0 : Int32))


def f_BitReader_refuse (rd_refusal : Int32) (p0 : Int32) : Option (Int32) :=
  if rd_refusal = 0 then
    some p0
  else
    some rd_refusal


def f_BitReader_isRefused (rd_refusal : Int32) : Option (Int32) :=
  if rd_refusal = 0 then
    some (0 : Int32)
  else
    some (1 : Int32)


def f_BitReader_nextBit (rd_place : Int32) (rd_refusal : Int32) (cb_count : Int32) (cb_bytes : (Nat → Int32)) : Option (Int32 × Int32 × Int32) :=
  if rd_refusal = 0 then
    if (rd_place / (8 : Int32)) < cb_count then
      gq (rd_place / (8 : Int32)) 2000 <|
      nl (((cb_bytes ((rd_place / (8 : Int32))).toNatClampNeg) >>> (((7 : Int32) - (rd_place - rd_place / (8 : Int32) * (8 : Int32))) &&& 31)) &&& (1 : Int32)) fun v1_1 =>
      nl (rd_place + (1 : Int32)) fun place_2 =>
      some (v1_1, place_2, rd_refusal)
    else
      some ((0 : Int32), rd_place, (1 : Int32))
  else
    some ((0 : Int32), rd_place, rd_refusal)


def f_BitReader_nextBits_L4 (p0 : Int32) (cb_count : Int32) (cb_bytes : (Nat → Int32)) (self4 : Int32 × Int32 × Int32 × Int32 → Option (Int32 × Int32 × Int32)) : Int32 × Int32 × Int32 × Int32 → Option (Int32 × Int32 × Int32)
  | (v3_1, v2_2, rd_place_3, rd_refusal_4) =>
  if p0 ≤ v3_1 then
    some (v2_2, rd_place_3, rd_refusal_4)
  else
    bd (f_BitReader_nextBit rd_place_3 rd_refusal_4 cb_count cb_bytes) fun (r_5, rd_place_6, rd_refusal_7) =>
    nl ((v2_2 <<< ((1 : Int32) &&& 31)) ||| r_5) fun v2_8 =>
    nl (v3_1 + (1 : Int32)) fun v3_9 =>
    self4 (v3_9, v2_8, rd_place_6, rd_refusal_7)

def f_BitReader_nextBits (rd_place : Int32) (rd_refusal : Int32) (cb_count : Int32) (cb_bytes : (Nat → Int32)) (p0 : Int32) : Option (Int32 × Int32 × Int32) :=
  lp (f_BitReader_nextBits_L4 p0 cb_count cb_bytes) FU ((0 : Int32), (0 : Int32), rd_place, rd_refusal)


def f_BitReader_nextNumber_L2 (cb_count : Int32) (cb_bytes : (Nat → Int32)) (k21 : Int32 → Int32 → Int32 → Option (Int32 × Int32 × Int32)) (self2 : Int32 × Int32 × Int32 → Option (Int32 × Int32 × Int32)) : Int32 × Int32 × Int32 → Option (Int32 × Int32 × Int32)
  | (v1_1, rd_place_2, rd_refusal_3) =>
  if (12 : Int32) < v1_1 then
    k21 v1_1 rd_place_2 rd_refusal_3
  else
    bd (f_BitReader_nextBit rd_place_2 rd_refusal_3 cb_count cb_bytes) fun (r_7, rd_place_8, rd_refusal_9) =>
    if r_7 = 0 then
      nl (v1_1 + (1 : Int32)) fun v1_10 =>
      self2 (v1_10, rd_place_8, rd_refusal_9)
    else
      k21 v1_1 rd_place_8 rd_refusal_9

def f_BitReader_nextNumber_L39 (v1_4 : Int32) (cb_count : Int32) (cb_bytes : (Nat → Int32)) (self39 : Int32 × Int32 × Int32 × Int32 → Option (Int32 × Int32 × Int32)) : Int32 × Int32 × Int32 × Int32 → Option (Int32 × Int32 × Int32)
  | (v3_11, v2_12, rd_place_13, rd_refusal_14) =>
  if v1_4 ≤ v3_11 then
    some ((v2_12 - (1 : Int32)), rd_place_13, rd_refusal_14)
  else
    bd (f_BitReader_nextBit rd_place_13 rd_refusal_14 cb_count cb_bytes) fun (r_15, rd_place_16, rd_refusal_17) =>
    nl ((v2_12 <<< ((1 : Int32) &&& 31)) ||| r_15) fun v2_18 =>
    nl (v3_11 + (1 : Int32)) fun v3_19 =>
    self39 (v3_19, v2_18, rd_place_16, rd_refusal_17)

def f_BitReader_nextNumber (rd_place : Int32) (rd_refusal : Int32) (cb_count : Int32) (cb_bytes : (Nat → Int32)) : Option (Int32 × Int32 × Int32) :=
  lp (f_BitReader_nextNumber_L2 cb_count cb_bytes
    (fun (v1_4 : Int32) (rd_place_5 : Int32) (rd_refusal_6 : Int32) =>
      if v1_4 ≤ (12 : Int32) then
        lp (f_BitReader_nextNumber_L39 v1_4 cb_count cb_bytes) FU ((0 : Int32), (1 : Int32), rd_place_5, rd_refusal_6)
      else
        bd (f_BitReader_refuse rd_refusal_6 (8 : Int32)) fun rd_refusal_20 =>
        some ((0 : Int32), rd_place_5, rd_refusal_20))) FU ((0 : Int32), rd_place, rd_refusal)


def f_BitReader_nextSigned (rd_place : Int32) (rd_refusal : Int32) (cb_count : Int32) (cb_bytes : (Nat → Int32)) : Option (Int32 × Int32 × Int32) :=
  bd (f_BitReader_nextNumber rd_place rd_refusal cb_count cb_bytes) fun (r_1, rd_place_2, rd_refusal_3) =>
  if (r_1 - r_1 / (2 : Int32) * (2 : Int32)) = 0 then
    some ((r_1 / (2 : Int32)), rd_place_2, rd_refusal_3)
  else
    some (((-(r_1 / (2 : Int32))) - (1 : Int32)), rd_place_2, rd_refusal_3)


def f_BitReader_readEnd_L2 (cb_count : Int32) (cb_bytes : (Nat → Int32)) (k38 : Int32 → Int32 → Option (Int32 × Int32)) (self2 : Int32 × Int32 × Int32 → Option (Int32 × Int32)) : Int32 × Int32 × Int32 → Option (Int32 × Int32)
  | (v1_1, rd_place_2, rd_refusal_3) =>
  if (8 : Int32) ≤ v1_1 then
    k38 rd_place_2 rd_refusal_3
  else
    if (rd_place_2 - rd_place_2 / (8 : Int32) * (8 : Int32)) = 0 then
      k38 rd_place_2 rd_refusal_3
    else
      bd (f_BitReader_nextBit rd_place_2 rd_refusal_3 cb_count cb_bytes) fun (r_6, rd_place_7, rd_refusal_8) =>
      jn (fun (rd_refusal_9 : Int32) =>
          nl (v1_1 + (1 : Int32)) fun v1_10 =>
          self2 (v1_10, rd_place_7, rd_refusal_9)) fun j32 =>
      if r_6 = (1 : Int32) then
        bd (f_BitReader_refuse rd_refusal_8 (9 : Int32)) fun rd_refusal_11 =>
        j32 rd_refusal_11
      else
        j32 rd_refusal_8

def f_BitReader_readEnd (rd_place : Int32) (rd_refusal : Int32) (cb_count : Int32) (cb_bytes : (Nat → Int32)) : Option (Int32 × Int32) :=
  lp (f_BitReader_readEnd_L2 cb_count cb_bytes
    (fun (rd_place_4 : Int32) (rd_refusal_5 : Int32) =>
      if cb_count ≤ (rd_place_4 / (8 : Int32)) then
        some (rd_place_4, rd_refusal_5)
      else
        bd (f_BitReader_refuse rd_refusal_5 (9 : Int32)) fun rd_refusal_12 =>
        some (rd_place_4, rd_refusal_12))) FU ((0 : Int32), rd_place, rd_refusal)


def f_FrontNames_putByNumber_L2 (self2 : Int32 × (Nat → Int32) → Option ((Nat → Int32))) : Int32 × (Nat → Int32) → Option ((Nat → Int32))
  | (v1_1, na_row_2) =>
  if (16 : Int32) ≤ v1_1 then
    some na_row_2
  else
    gq v1_1 16 <|
    nl (v1_1 + (1 : Int32)) fun v1_3 =>
    self2 (v1_3, (upd na_row_2 (v1_1).toNatClampNeg v1_1))

def f_FrontNames_putByNumber (na_row : (Nat → Int32)) : Option ((Nat → Int32)) :=
  lp (f_FrontNames_putByNumber_L2) FU ((0 : Int32), na_row)


def f_FrontNames_toFront_L9 (v2_1 : Int32) (self9 : Int32 × (Nat → Int32) → Option ((Nat → Int32))) : Int32 × (Nat → Int32) → Option ((Nat → Int32))
  | (v3_2, na_row_3) =>
  if v3_2 ≤ 0 then
    gq (0 : Int32) 16 <|
    some (upd na_row_3 ((0 : Int32)).toNatClampNeg v2_1)
  else
    gq (v3_2 - (1 : Int32)) 16 <|
    nl (na_row_3 ((v3_2 - (1 : Int32))).toNatClampNeg) fun w_4 =>
    gq v3_2 16 <|
    nl (v3_2 + (-1 : Int32)) fun v3_5 =>
    self9 (v3_5, (upd na_row_3 (v3_2).toNatClampNeg w_4))

def f_FrontNames_toFront (na_row : (Nat → Int32)) (p0 : Int32) : Option ((Nat → Int32)) :=
  gq p0 16 <|
  nl (na_row (p0).toNatClampNeg) fun v2_1 =>
  lp (f_FrontNames_toFront_L9 v2_1) FU (p0, na_row)


def f_FrontNames_suit : Option (Unit) :=
  some ()


def f_FrontNames_tellTable (na_row : (Nat → Int32)) : Option ((Nat → Int32)) :=
  bd (f_FrontNames_putByNumber na_row) fun na_row_1 =>
  some na_row_1


def f_FrontNames_tellName_L2 (di_count : Int32) (na_row : (Nat → Int32)) (p0 : Int32) (k31 : Int32 → Option (Int32 × (Nat → Int32) × Int32 × (Nat → Int32))) (self2 : Int32 → Option (Int32 × (Nat → Int32) × Int32 × (Nat → Int32))) (v3_1 : Int32) : Option (Int32 × (Nat → Int32) × Int32 × (Nat → Int32)) :=
  if (di_count - (1 : Int32)) ≤ v3_1 then
    k31 v3_1
  else
    gq v3_1 16 <|
    if (na_row (v3_1).toNatClampNeg) = p0 then
      k31 v3_1
    else
      nl (v3_1 + (1 : Int32)) fun v3_3 =>
      self2 v3_3

def f_FrontNames_tellName (wr_keeping : Int32) (wr_count : Int32) (di_count : Int32) (na_row : (Nat → Int32)) (tb_count : Int32) (tb_bytes : (Nat → Int32)) (p0 : Int32) : Option (Int32 × (Nat → Int32) × Int32 × (Nat → Int32)) :=
  lp (f_FrontNames_tellName_L2 di_count na_row p0
    (fun (v3_2 : Int32) =>
      bd (f_BitWriter_tellNumber wr_keeping wr_count tb_count tb_bytes v3_2) fun (wr_count_4, tb_count_5, tb_bytes_6) =>
      bd (f_FrontNames_toFront na_row v3_2) fun na_row_7 =>
      some (wr_count_4, na_row_7, tb_count_5, tb_bytes_6))) FU (0 : Int32)


def f_FrontNames_readTable (na_row : (Nat → Int32)) (p1 : Int32) : Option ((Nat → Int32)) :=
  bd (f_FrontNames_putByNumber na_row) fun na_row_1 =>
  some na_row_1


def f_FrontNames_readName (rd_place : Int32) (rd_refusal : Int32) (cb_count : Int32) (cb_bytes : (Nat → Int32)) (di_count : Int32) (na_row : (Nat → Int32)) : Option (Int32 × Int32 × Int32 × (Nat → Int32)) :=
  bd (f_BitReader_nextNumber rd_place rd_refusal cb_count cb_bytes) fun (r_1, rd_place_2, rd_refusal_3) =>
  bd (f_BitReader_isRefused rd_refusal_3) fun r_4 =>
  if r_4 = 0 then
    if r_1 < di_count then
      bd (f_FrontNames_toFront na_row r_1) fun na_row_5 =>
      gq (0 : Int32) 16 <|
      some ((na_row_5 ((0 : Int32)).toNatClampNeg), rd_place_2, rd_refusal_3, na_row_5)
    else
      bd (f_BitReader_refuse rd_refusal_3 (5 : Int32)) fun rd_refusal_6 =>
      some ((0 : Int32), rd_place_2, rd_refusal_6, na_row)
  else
    some ((0 : Int32), rd_place_2, rd_refusal_3, na_row)


def f_CodeNames_symbolOf_L2 (di_count : Int32) (na_lengths : (Nat → Int32)) (p1 : Int32) (na_codes : (Nat → Int32)) (p0 : Int32) (self2 : Int32 → Option (Int32)) (v3_1 : Int32) : Option (Int32) :=
  if di_count ≤ v3_1 then
    some (-1 : Int32)
  else
    gq v3_1 16 <|
    jn (fun (_ : Unit) =>
        nl (v3_1 + (1 : Int32)) fun v3_2 =>
        self2 v3_2) fun j35 =>
    if (na_lengths (v3_1).toNatClampNeg) = p1 then
      gq v3_1 16 <|
      if (na_codes (v3_1).toNatClampNeg) = p0 then
        some v3_1
      else
        j35 ()
    else
      j35 ()

def f_CodeNames_symbolOf (di_count : Int32) (na_lengths : (Nat → Int32)) (na_codes : (Nat → Int32)) (p0 : Int32) (p1 : Int32) : Option (Int32) :=
  lp (f_CodeNames_symbolOf_L2 di_count na_lengths p1 na_codes p0) FU (0 : Int32)


def f_CodeNames_weigh_L2 (k31 : (Nat → Int32) → (Nat → Int32) → Option ((Nat → Int32) × (Nat → Int32))) (self2 : Int32 × (Nat → Int32) × (Nat → Int32) → Option ((Nat → Int32) × (Nat → Int32))) : Int32 × (Nat → Int32) × (Nat → Int32) → Option ((Nat → Int32) × (Nat → Int32))
  | (v2_1, na_weights_2, na_joinedTo_3) =>
  if (32 : Int32) ≤ v2_1 then
    k31 na_weights_2 na_joinedTo_3
  else
    gq v2_1 32 <|
    gq v2_1 32 <|
    nl (v2_1 + (1 : Int32)) fun v2_6 =>
    self2 (v2_6, (upd na_weights_2 (v2_1).toNatClampNeg (0 : Int32)), (upd na_joinedTo_3 (v2_1).toNatClampNeg (-1 : Int32)))

def f_CodeNames_weigh_L33 (la_count : Int32) (na_joinedTo_5 : (Nat → Int32)) (la_symbolOf : (Nat → Int32)) (self33 : Int32 × (Nat → Int32) → Option ((Nat → Int32) × (Nat → Int32))) : Int32 × (Nat → Int32) → Option ((Nat → Int32) × (Nat → Int32))
  | (v2_7, na_weights_8) =>
  if la_count ≤ v2_7 then
    some (na_weights_8, na_joinedTo_5)
  else
    gq v2_7 40 <|
    gq (la_symbolOf (v2_7).toNatClampNeg) 32 <|
    nl ((na_weights_8 ((la_symbolOf (v2_7).toNatClampNeg)).toNatClampNeg) + (1 : Int32)) fun w_9 =>
    gq (la_symbolOf (v2_7).toNatClampNeg) 32 <|
    nl (v2_7 + (1 : Int32)) fun v2_10 =>
    self33 (v2_10, (upd na_weights_8 ((la_symbolOf (v2_7).toNatClampNeg)).toNatClampNeg w_9))

def f_CodeNames_weigh (la_count : Int32) (na_weights : (Nat → Int32)) (na_joinedTo : (Nat → Int32)) (la_symbolOf : (Nat → Int32)) : Option ((Nat → Int32) × (Nat → Int32)) :=
  lp (f_CodeNames_weigh_L2
    (fun (na_weights_4 : (Nat → Int32)) (na_joinedTo_5 : (Nat → Int32)) =>
      lp (f_CodeNames_weigh_L33 la_count na_joinedTo_5 la_symbolOf) FU ((0 : Int32), na_weights_4))) FU ((0 : Int32), na_weights, na_joinedTo)


def f_CodeNames_joinLeast_L4 (p0 : Int32) (na_weights : (Nat → Int32)) (na_joinedTo : (Nat → Int32)) (k56 : Int32 → Option (Int32 × (Nat → Int32))) (self4 : Int32 × Int32 → Option (Int32 × (Nat → Int32))) : Int32 × Int32 → Option (Int32 × (Nat → Int32))
  | (v3_1, v2_2) =>
  if p0 ≤ v3_1 then
    k56 v2_2
  else
    gq v3_1 32 <|
    jn (fun (v2_4 : Int32) =>
        nl (v3_1 + (1 : Int32)) fun v3_5 =>
        self4 (v3_5, v2_4)) fun j50 =>
    if (na_weights (v3_1).toNatClampNeg) ≤ 0 then
      j50 v2_2
    else
      gq v3_1 32 <|
      if (na_joinedTo (v3_1).toNatClampNeg) = (-1 : Int32) then
        jn (fun (_ : Unit) =>
            j50 v3_1) fun j48 =>
        if v2_2 = (-1 : Int32) then
          j48 ()
        else
          gq v3_1 32 <|
          gq v2_2 32 <|
          if (na_weights (v2_2).toNatClampNeg) ≤ (na_weights (v3_1).toNatClampNeg) then
            j50 v2_2
          else
            j48 ()
      else
        j50 v2_2

def f_CodeNames_joinLeast (na_weights : (Nat → Int32)) (na_joinedTo : (Nat → Int32)) (p0 : Int32) : Option (Int32 × (Nat → Int32)) :=
  lp (f_CodeNames_joinLeast_L4 p0 na_weights na_joinedTo
    (fun (v2_3 : Int32) =>
      if v2_3 = (-1 : Int32) then
        some ((0 : Int32), na_joinedTo)
      else
        gq v2_3 32 <|
        gq v2_3 32 <|
        some ((na_weights (v2_3).toNatClampNeg), (upd na_joinedTo (v2_3).toNatClampNeg p0)))) FU ((0 : Int32), (-1 : Int32))


def f_CodeNames_joinsOf_L9 (na_joinedTo : (Nat → Int32)) (self9 : Int32 × Int32 → Option (Int32)) : Int32 × Int32 → Option (Int32)
  | (v3_2, v2_3) =>
  if (15 : Int32) ≤ v2_3 then
    some v2_3
  else
    if v3_2 = (-1 : Int32) then
      some v2_3
    else
      nl (v2_3 + (1 : Int32)) fun v2_4 =>
      gq v3_2 32 <|
      nl (na_joinedTo (v3_2).toNatClampNeg) fun v3_5 =>
      self9 (v3_5, v2_4)

def f_CodeNames_joinsOf (na_joinedTo : (Nat → Int32)) (p0 : Int32) : Option (Int32) :=
  gq p0 32 <|
  nl (na_joinedTo (p0).toNatClampNeg) fun v3_1 =>
  lp (f_CodeNames_joinsOf_L9 na_joinedTo) FU (v3_1, (0 : Int32))


def f_CodeNames_areAllowed_L11 (di_count : Int32) (na_lengths : (Nat → Int32)) (k54 : Int32 → Int32 → Option (Int32)) (self11 : Int32 × Int32 × Int32 → Option (Int32)) : Int32 × Int32 × Int32 → Option (Int32)
  | (v5_1, v4_2, v3_3) =>
  if di_count ≤ v5_1 then
    k54 v4_2 v3_3
  else
    gq v5_1 16 <|
    jn (fun (v4_6 : Int32) (v3_7 : Int32) =>
        nl (v5_1 + (1 : Int32)) fun v5_8 =>
        self11 (v5_8, v4_6, v3_7)) fun j48 =>
    if (na_lengths (v5_1).toNatClampNeg) ≤ 0 then
      j48 v4_2 v3_3
    else
      gq v5_1 16 <|
      nl (v3_3 + ((32768 : Int32) >>> ((na_lengths (v5_1).toNatClampNeg) &&& 31))) fun v3_9 =>
      nl (v4_2 + (1 : Int32)) fun v4_10 =>
      j48 v4_10 v3_9

def f_CodeNames_areAllowed (di_count : Int32) (na_lengths : (Nat → Int32)) (p0 : Int32) : Option (Int32) :=
  lp (f_CodeNames_areAllowed_L11 di_count na_lengths
    (fun (v4_4 : Int32) (v3_5 : Int32) =>
      jn (fun (s_11 : Int32) =>
          jn (fun (_ : Unit) =>
              some (1 : Int32)) fun j93 =>
          if v3_5 = (32768 : Int32) then
            j93 ()
          else
            if s_11 = 0 then
              if v4_4 = 0 then
                if p0 = 0 then
                  j93 ()
                else
                  some (0 : Int32)
              else
                some (0 : Int32)
            else
              j93 ()) fun j72 =>
      jn (fun (_ : Unit) =>
          j72 (0 : Int32)) fun j71 =>
      if v4_4 = (1 : Int32) then
        if v3_5 = ((32768 : Int32) / (2 : Int32)) then
          j72 (1 : Int32)
        else
          j71 ()
      else
        j71 ())) FU ((0 : Int32), (0 : Int32), (0 : Int32))


def f_CodeNames_assignCodes_L16 (di_count : Int32) (na_lengths : (Nat → Int32)) (v2_1 : Int32) (k53 : Int32 → (Nat → Int32) → Option ((Nat → Int32))) (self16 : Int32 × Int32 × (Nat → Int32) → Option ((Nat → Int32))) : Int32 × Int32 × (Nat → Int32) → Option ((Nat → Int32))
  | (v3_5, v1_6, na_codes_7) =>
  if di_count ≤ v3_5 then
    k53 v1_6 na_codes_7
  else
    gq v3_5 16 <|
    jn (fun (v1_10 : Int32) (na_codes_11 : (Nat → Int32)) =>
        nl (v3_5 + (1 : Int32)) fun v3_12 =>
        self16 (v3_12, v1_10, na_codes_11)) fun j47 =>
    if (na_lengths (v3_5).toNatClampNeg) = v2_1 then
      gq v3_5 16 <|
      nl (v1_6 + (1 : Int32)) fun v1_13 =>
      j47 v1_13 (upd na_codes_7 (v3_5).toNatClampNeg v1_6)
    else
      j47 v1_6 na_codes_7

def f_CodeNames_assignCodes_L4 (di_count : Int32) (na_lengths : (Nat → Int32)) (self4 : Int32 × Int32 × (Nat → Int32) → Option ((Nat → Int32))) : Int32 × Int32 × (Nat → Int32) → Option ((Nat → Int32))
  | (v2_1, v1_2, na_codes_3) =>
  if (15 : Int32) < v2_1 then
    some na_codes_3
  else
    nl (v1_2 <<< ((1 : Int32) &&& 31)) fun v1_4 =>
    lp (f_CodeNames_assignCodes_L16 di_count na_lengths v2_1
      (fun (v1_8 : Int32) (na_codes_9 : (Nat → Int32)) =>
        nl (v2_1 + (1 : Int32)) fun v2_14 =>
        self4 (v2_14, v1_8, na_codes_9))) FU ((0 : Int32), v1_4, na_codes_3)

def f_CodeNames_assignCodes (di_count : Int32) (na_lengths : (Nat → Int32)) (na_codes : (Nat → Int32)) : Option ((Nat → Int32)) :=
  lp (f_CodeNames_assignCodes_L4 di_count na_lengths) FU ((1 : Int32), (0 : Int32), na_codes)


def f_CodeNames_suit_L9 (di_count : Int32) (na_weights_1 : (Nat → Int32)) (k43 : Int32 → Option ((Nat → Int32) × (Nat → Int32) × (Nat → Int32) × (Nat → Int32))) (self9 : Int32 × Int32 → Option ((Nat → Int32) × (Nat → Int32) × (Nat → Int32) × (Nat → Int32))) : Int32 × Int32 → Option ((Nat → Int32) × (Nat → Int32) × (Nat → Int32) × (Nat → Int32))
  | (v3_3, v2_4) =>
  if di_count ≤ v3_3 then
    k43 v2_4
  else
    gq v3_3 32 <|
    jn (fun (s_6 : Int32) (s_7 : Int32) =>
        nl (s_6 + s_7) fun v2_8 =>
        nl (v3_3 + (1 : Int32)) fun v3_9 =>
        self9 (v3_9, v2_8)) fun j35 =>
    if (na_weights_1 (v3_3).toNatClampNeg) ≤ 0 then
      j35 v2_4 (0 : Int32)
    else
      j35 v2_4 (1 : Int32)

def f_CodeNames_suit_L45 (v2_5 : Int32) (k92 : (Nat → Int32) → (Nat → Int32) → Option ((Nat → Int32) × (Nat → Int32) × (Nat → Int32) × (Nat → Int32))) (self45 : Int32 × (Nat → Int32) × (Nat → Int32) → Option ((Nat → Int32) × (Nat → Int32) × (Nat → Int32) × (Nat → Int32))) : Int32 × (Nat → Int32) × (Nat → Int32) → Option ((Nat → Int32) × (Nat → Int32) × (Nat → Int32) × (Nat → Int32))
  | (v3_10, na_weights_11, na_joinedTo_12) =>
  if (v2_5 - (1 : Int32)) ≤ v3_10 then
    k92 na_weights_11 na_joinedTo_12
  else
    nl ((16 : Int32) + v3_10) fun v4_15 =>
    bd (f_CodeNames_joinLeast na_weights_11 na_joinedTo_12 v4_15) fun (r_16, na_joinedTo_17) =>
    bd (f_CodeNames_joinLeast na_weights_11 na_joinedTo_17 v4_15) fun (r_18, na_joinedTo_19) =>
    nl (r_16 + r_18) fun w_20 =>
    gq v4_15 32 <|
    nl (v3_10 + (1 : Int32)) fun v3_21 =>
    self45 (v3_21, (upd na_weights_11 (v4_15).toNatClampNeg w_20), na_joinedTo_19)

def f_CodeNames_suit_L94 (v2_5 : Int32) (na_weights_13 : (Nat → Int32)) (na_joinedTo_14 : (Nat → Int32)) (k139 : (Nat → Int32) → Option ((Nat → Int32) × (Nat → Int32) × (Nat → Int32) × (Nat → Int32))) (self94 : Int32 × (Nat → Int32) → Option ((Nat → Int32) × (Nat → Int32) × (Nat → Int32) × (Nat → Int32))) : Int32 × (Nat → Int32) → Option ((Nat → Int32) × (Nat → Int32) × (Nat → Int32) × (Nat → Int32))
  | (v3_22, na_lengths_23) =>
  if (16 : Int32) ≤ v3_22 then
    k139 na_lengths_23
  else
    jn (fun (s_25 : Int32) (s_26 : Int32) =>
        gq s_25 16 <|
        nl (v3_22 + (1 : Int32)) fun v3_27 =>
        self94 (v3_27, (upd na_lengths_23 (s_25).toNatClampNeg s_26))) fun j132 =>
    if v2_5 = (1 : Int32) then
      gq v3_22 32 <|
      if (na_weights_13 (v3_22).toNatClampNeg) ≤ 0 then
        j132 v3_22 (0 : Int32)
      else
        j132 v3_22 (1 : Int32)
    else
      bd (f_CodeNames_joinsOf na_joinedTo_14 v3_22) fun r_28 =>
      j132 v3_22 r_28

def f_CodeNames_suit (la_count : Int32) (na_weights : (Nat → Int32)) (na_joinedTo : (Nat → Int32)) (la_symbolOf : (Nat → Int32)) (di_count : Int32) (na_lengths : (Nat → Int32)) (na_codes : (Nat → Int32)) : Option ((Nat → Int32) × (Nat → Int32) × (Nat → Int32) × (Nat → Int32)) :=
  bd (f_CodeNames_weigh la_count na_weights na_joinedTo la_symbolOf) fun (na_weights_1, na_joinedTo_2) =>
  lp (f_CodeNames_suit_L9 di_count na_weights_1
    (fun (v2_5 : Int32) =>
      lp (f_CodeNames_suit_L45 v2_5
        (fun (na_weights_13 : (Nat → Int32)) (na_joinedTo_14 : (Nat → Int32)) =>
          lp (f_CodeNames_suit_L94 v2_5 na_weights_13 na_joinedTo_14
            (fun (na_lengths_24 : (Nat → Int32)) =>
              bd (f_CodeNames_assignCodes di_count na_lengths_24 na_codes) fun na_codes_29 =>
              some (na_weights_13, na_joinedTo_14, na_lengths_24, na_codes_29))) FU ((0 : Int32), na_lengths))) FU ((0 : Int32), na_weights_1, na_joinedTo_2))) FU ((0 : Int32), (0 : Int32))


def f_CodeNames_tellTable_L2 (di_count : Int32) (wr_keeping : Int32) (na_lengths : (Nat → Int32)) (self2 : Int32 × Int32 × Int32 × (Nat → Int32) → Option (Int32 × Int32 × (Nat → Int32))) : Int32 × Int32 × Int32 × (Nat → Int32) → Option (Int32 × Int32 × (Nat → Int32))
  | (v2_1, wr_count_2, tb_count_3, tb_bytes_4) =>
  if di_count ≤ v2_1 then
    some (wr_count_2, tb_count_3, tb_bytes_4)
  else
    gq v2_1 16 <|
    bd (f_BitWriter_tellBits wr_keeping wr_count_2 tb_count_3 tb_bytes_4 (na_lengths (v2_1).toNatClampNeg) (4 : Int32)) fun (wr_count_5, tb_count_6, tb_bytes_7) =>
    nl (v2_1 + (1 : Int32)) fun v2_8 =>
    self2 (v2_8, wr_count_5, tb_count_6, tb_bytes_7)

def f_CodeNames_tellTable (wr_keeping : Int32) (wr_count : Int32) (di_count : Int32) (na_lengths : (Nat → Int32)) (tb_count : Int32) (tb_bytes : (Nat → Int32)) : Option (Int32 × Int32 × (Nat → Int32)) :=
  lp (f_CodeNames_tellTable_L2 di_count wr_keeping na_lengths) FU ((0 : Int32), wr_count, tb_count, tb_bytes)


def f_CodeNames_tellName (wr_keeping : Int32) (wr_count : Int32) (na_codes : (Nat → Int32)) (na_lengths : (Nat → Int32)) (tb_count : Int32) (tb_bytes : (Nat → Int32)) (p0 : Int32) : Option (Int32 × Int32 × (Nat → Int32)) :=
  gq p0 16 <|
  gq p0 16 <|
  bd (f_BitWriter_tellBits wr_keeping wr_count tb_count tb_bytes (na_codes (p0).toNatClampNeg) (na_lengths (p0).toNatClampNeg)) fun (wr_count_1, tb_count_2, tb_bytes_3) =>
  some (wr_count_1, tb_count_2, tb_bytes_3)


def f_CodeNames_readTable_L2 (di_count : Int32) (cb_count : Int32) (cb_bytes : (Nat → Int32)) (k40 : Int32 → Int32 → (Nat → Int32) → Option (Int32 × Int32 × (Nat → Int32) × (Nat → Int32))) (self2 : Int32 × Int32 × Int32 × (Nat → Int32) → Option (Int32 × Int32 × (Nat → Int32) × (Nat → Int32))) : Int32 × Int32 × Int32 × (Nat → Int32) → Option (Int32 × Int32 × (Nat → Int32) × (Nat → Int32))
  | (v3_1, rd_place_2, rd_refusal_3, na_lengths_4) =>
  if (16 : Int32) ≤ v3_1 then
    k40 rd_place_2 rd_refusal_3 na_lengths_4
  else
    jn (fun (s_8 : Int32) (s_9 : Int32) (rd_place_10 : Int32) (rd_refusal_11 : Int32) =>
        gq s_8 16 <|
        nl (v3_1 + (1 : Int32)) fun v3_12 =>
        self2 (v3_12, rd_place_10, rd_refusal_11, (upd na_lengths_4 (s_8).toNatClampNeg s_9))) fun j33 =>
    if di_count ≤ v3_1 then
      j33 v3_1 (0 : Int32) rd_place_2 rd_refusal_3
    else
      bd (f_BitReader_nextBits rd_place_2 rd_refusal_3 cb_count cb_bytes (4 : Int32)) fun (r_13, rd_place_14, rd_refusal_15) =>
      j33 v3_1 r_13 rd_place_14 rd_refusal_15

def f_CodeNames_readTable (rd_place : Int32) (rd_refusal : Int32) (na_lengths : (Nat → Int32)) (di_count : Int32) (cb_count : Int32) (cb_bytes : (Nat → Int32)) (na_codes : (Nat → Int32)) (p1 : Int32) : Option (Int32 × Int32 × (Nat → Int32) × (Nat → Int32)) :=
  lp (f_CodeNames_readTable_L2 di_count cb_count cb_bytes
    (fun (rd_place_5 : Int32) (rd_refusal_6 : Int32) (na_lengths_7 : (Nat → Int32)) =>
      bd (f_CodeNames_areAllowed di_count na_lengths_7 p1) fun r_16 =>
      jn (fun (rd_refusal_17 : Int32) =>
          bd (f_CodeNames_assignCodes di_count na_lengths_7 na_codes) fun na_codes_18 =>
          some (rd_place_5, rd_refusal_17, na_lengths_7, na_codes_18)) fun j53 =>
      if r_16 = 0 then
        bd (f_BitReader_refuse rd_refusal_6 (4 : Int32)) fun rd_refusal_19 =>
        j53 rd_refusal_19
      else
        j53 rd_refusal_6)) FU ((0 : Int32), rd_place, rd_refusal, na_lengths)


def f_CodeNames_readName_L4 (di_count : Int32) (na_lengths : (Nat → Int32)) (k32 : Int32 → Option (Int32 × Int32 × Int32)) (self4 : Int32 × Int32 → Option (Int32 × Int32 × Int32)) : Int32 × Int32 → Option (Int32 × Int32 × Int32)
  | (v3_1, v2_2) =>
  if di_count ≤ v3_1 then
    k32 v2_2
  else
    gq v3_1 16 <|
    nl (if v2_2 < (na_lengths (v3_1).toNatClampNeg) then (na_lengths (v3_1).toNatClampNeg) else v2_2) fun v2_4 =>
    nl (v3_1 + (1 : Int32)) fun v3_5 =>
    self4 (v3_5, v2_4)

def f_CodeNames_readName_L37 (v2_3 : Int32) (cb_count : Int32) (cb_bytes : (Nat → Int32)) (di_count : Int32) (na_lengths : (Nat → Int32)) (na_codes : (Nat → Int32)) (k76 : Int32 → Int32 → Option (Int32 × Int32 × Int32)) (self37 : Int32 × Int32 × Int32 × Int32 → Option (Int32 × Int32 × Int32)) : Int32 × Int32 × Int32 × Int32 → Option (Int32 × Int32 × Int32)
  | (v4_6, v3_7, rd_place_8, rd_refusal_9) =>
  if v2_3 < v4_6 then
    k76 rd_place_8 rd_refusal_9
  else
    bd (f_BitReader_nextBit rd_place_8 rd_refusal_9 cb_count cb_bytes) fun (r_12, rd_place_13, rd_refusal_14) =>
    nl ((v3_7 <<< ((1 : Int32) &&& 31)) ||| r_12) fun v3_15 =>
    bd (f_CodeNames_symbolOf di_count na_lengths na_codes v3_15 v4_6) fun r_16 =>
    if r_16 = (-1 : Int32) then
      nl (v4_6 + (1 : Int32)) fun v4_17 =>
      self37 (v4_17, v3_15, rd_place_13, rd_refusal_14)
    else
      some (r_16, rd_place_13, rd_refusal_14)

def f_CodeNames_readName (rd_place : Int32) (rd_refusal : Int32) (di_count : Int32) (na_lengths : (Nat → Int32)) (cb_count : Int32) (cb_bytes : (Nat → Int32)) (na_codes : (Nat → Int32)) : Option (Int32 × Int32 × Int32) :=
  lp (f_CodeNames_readName_L4 di_count na_lengths
    (fun (v2_3 : Int32) =>
      lp (f_CodeNames_readName_L37 v2_3 cb_count cb_bytes di_count na_lengths na_codes
        (fun (rd_place_10 : Int32) (rd_refusal_11 : Int32) =>
          bd (f_BitReader_refuse rd_refusal_11 (5 : Int32)) fun rd_refusal_18 =>
          some ((0 : Int32), rd_place_10, rd_refusal_18))) FU ((1 : Int32), (0 : Int32), rd_place, rd_refusal))) FU ((0 : Int32), (0 : Int32))


def f_Long_bitCount (p0 : Int64) : Option (Int32) :=
  nl (p0 - ((((p0).toUInt64 >>> ((((1 : Int32)).toInt64).toUInt64 &&& Int64.toUInt64 63)).toInt64) &&& (6148914691236517205 : Int64))) fun v0_1 =>
  nl ((v0_1 &&& (3689348814741910323 : Int64)) + ((((v0_1).toUInt64 >>> ((((2 : Int32)).toInt64).toUInt64 &&& Int64.toUInt64 63)).toInt64) &&& (3689348814741910323 : Int64))) fun v0_2 =>
  nl ((v0_2 + (((v0_2).toUInt64 >>> ((((4 : Int32)).toInt64).toUInt64 &&& Int64.toUInt64 63)).toInt64)) &&& (1085102592571150095 : Int64)) fun v0_3 =>
  nl (v0_3 + (((v0_3).toUInt64 >>> ((((8 : Int32)).toInt64).toUInt64 &&& Int64.toUInt64 63)).toInt64)) fun v0_4 =>
  nl (v0_4 + (((v0_4).toUInt64 >>> ((((16 : Int32)).toInt64).toUInt64 &&& Int64.toUInt64 63)).toInt64)) fun v0_5 =>
  nl (v0_5 + (((v0_5).toUInt64 >>> ((((32 : Int32)).toInt64).toUInt64 &&& Int64.toUInt64 63)).toInt64)) fun v0_6 =>
  some ((v0_6).toInt32 &&& (127 : Int32))


def f_Teller_zerosBelowLowestOne (p0 : Int64) : Option (Int32) :=
  bd (f_Long_bitCount ((p0 &&& (-p0)) - (1 : Int64))) fun r_1 =>
  some r_1


def f_Teller_tellDiffers_L38 (p1 : Int32) (wr_keeping : Int32) (self38 : Int32 × Int32 × Int64 × Int32 × Int32 × (Nat → Int32) → Option (Int32 × Int32 × (Nat → Int32))) : Int32 × Int32 × Int64 × Int32 × Int32 × (Nat → Int32) → Option (Int32 × Int32 × (Nat → Int32))
  | (v7_6, v6_7, v4_8, wr_count_9, tb_count_10, tb_bytes_11) =>
  if p1 < v7_6 then
    some (wr_count_9, tb_count_10, tb_bytes_11)
  else
    if p1 ≤ v6_7 then
      some (wr_count_9, tb_count_10, tb_bytes_11)
    else
      bd (f_Teller_zerosBelowLowestOne (((v4_8).toUInt64 >>> (((v6_7).toInt64).toUInt64 &&& Int64.toUInt64 63)).toInt64)) fun r_12 =>
      nl (if (p1 - v6_7) < r_12 then (p1 - v6_7) else r_12) fun v8_13 =>
      bd (f_BitWriter_tellNumber wr_keeping wr_count_9 tb_count_10 tb_bytes_11 v8_13) fun (wr_count_14, tb_count_15, tb_bytes_16) =>
      nl (v6_7 + v8_13) fun v6_17 =>
      nl (v4_8 ^^^ (-1 : Int64)) fun v4_18 =>
      nl (v7_6 + (1 : Int32)) fun v7_19 =>
      self38 (v7_19, v6_17, v4_18, wr_count_14, tb_count_15, tb_bytes_16)

def f_Teller_tellDiffers (wr_keeping : Int32) (wr_count : Int32) (tb_count : Int32) (tb_bytes : (Nat → Int32)) (p0 : Int64) (p1 : Int32) : Option (Int32 × Int32 × (Nat → Int32)) :=
  jn (fun (s_1 : Int32) =>
      bd (f_BitWriter_tellBits wr_keeping wr_count tb_count tb_bytes s_1 (1 : Int32)) fun (wr_count_2, tb_count_3, tb_bytes_4) =>
      jn (fun (s_5 : Int32) =>
          lp (f_Teller_tellDiffers_L38 p1 wr_keeping) FU ((0 : Int32), s_5, p0, wr_count_2, tb_count_3, tb_bytes_4)) fun j33 =>
      if (lg_cmp p0 (0 : Int64)) = 0 then
        j33 p1
      else
        j33 (0 : Int32)) fun j15 =>
  if (lg_cmp p0 (0 : Int64)) = 0 then
    j15 (0 : Int32)
  else
    j15 (1 : Int32)


def f_Teller_prepare_C (la_count : Int32) (la_ways : (Nat → Int32)) (la_ys : (Nat → Int32)) (la_symbolOf : (Nat → Int32)) (di_count : Int32) (di_heights : (Nat → Int32)) (la_xs : (Nat → Int32)) (di_widths : (Nat → Int32)) (la_sequence : (Nat → Int32)) (na_weights : (Nat → Int32)) (na_joinedTo : (Nat → Int32)) (na_lengths : (Nat → Int32)) (na_codes : (Nat → Int32)) : Option ((Nat → Int32) × (Nat → Int32) × (Nat → Int32) × (Nat → Int32) × (Nat → Int32)) :=
  bd (f_Layout_arrange la_count la_ways la_ys la_symbolOf di_heights la_xs di_widths la_sequence) fun la_sequence_1 =>
  bd (f_CodeNames_suit la_count na_weights na_joinedTo la_symbolOf di_count na_lengths na_codes) fun (na_weights_2, na_joinedTo_3, na_lengths_4, na_codes_5) =>
  some (la_sequence_1, na_weights_2, na_joinedTo_3, na_lengths_4, na_codes_5)


def f_Teller_tellInstances_C_L19 (la_count : Int32) (la_sequence : (Nat → Int32)) (la_symbolOf : (Nat → Int32)) (la_ways : (Nat → Int32)) (la_xs : (Nat → Int32)) (di_widths : (Nat → Int32)) (la_ys : (Nat → Int32)) (di_heights : (Nat → Int32)) (v2_1 : Int32) (wr_keeping : Int32) (na_codes : (Nat → Int32)) (na_lengths : (Nat → Int32)) (la_differs : (Nat → Int64)) (k207 : Int32 → Int32 → (Nat → Int32) → Option (Int32 × Int32 × (Nat → Int32))) (self19 : Int32 × Int32 × Int32 × Int32 × Int32 × Int32 × (Nat → Int32) → Option (Int32 × Int32 × (Nat → Int32))) : Int32 × Int32 × Int32 × Int32 × Int32 × Int32 × (Nat → Int32) → Option (Int32 × Int32 × (Nat → Int32))
  | (v6_2, v5_3, v4_4, v3_5, wr_count_6, tb_count_7, tb_bytes_8) =>
  if la_count ≤ v6_2 then
    k207 wr_count_6 tb_count_7 tb_bytes_8
  else
    gq v6_2 40 <|
    nl (la_sequence (v6_2).toNatClampNeg) fun v7_12 =>
    gq v7_12 40 <|
    nl (la_symbolOf (v7_12).toNatClampNeg) fun v8_13 =>
    bd (f_Layout_cornerS la_ways la_xs la_symbolOf di_widths la_ys di_heights v7_12) fun r_14 =>
    bd (f_Layout_cornerT la_ways la_ys la_symbolOf di_heights la_xs di_widths v7_12) fun r_15 =>
    nl (r_15 >>> (v2_1 &&& 31)) fun v11_16 =>
    jn (fun (v4_17 : Int32) (v3_18 : Int32) (wr_count_19 : Int32) (tb_count_20 : Int32) (tb_bytes_21 : (Nat → Int32)) =>
        bd (f_BitWriter_tellBits wr_keeping wr_count_19 tb_count_20 tb_bytes_21 (r_15 - (v3_18 <<< (v2_1 &&& 31))) v2_1) fun (wr_count_22, tb_count_23, tb_bytes_24) =>
        bd (f_CodeNames_tellName wr_keeping wr_count_22 na_codes na_lengths tb_count_23 tb_bytes_24 v8_13) fun (wr_count_25, tb_count_26, tb_bytes_27) =>
        gq v7_12 40 <|
        bd (f_Dictionary_sampleCount di_widths di_heights v8_13) fun r_28 =>
        bd (f_Teller_tellDiffers wr_keeping wr_count_25 tb_count_26 tb_bytes_27 (la_differs (v7_12).toNatClampNeg) r_28) fun (wr_count_29, tb_count_30, tb_bytes_31) =>
        bd (f_Layout_nextS la_symbolOf la_ways la_xs di_widths la_ys di_heights v7_12) fun r_32 =>
        nl (v6_2 + (1 : Int32)) fun v6_33 =>
        self19 (v6_33, r_32, v4_17, v3_18, wr_count_29, tb_count_30, tb_bytes_31)) fun j144 =>
    if v11_16 = v3_5 then
      bd (f_BitWriter_tellBits wr_keeping wr_count_6 tb_count_7 tb_bytes_8 (1 : Int32) (1 : Int32)) fun (wr_count_46, tb_count_47, tb_bytes_48) =>
      bd (f_BitWriter_tellSigned wr_keeping wr_count_46 tb_count_47 tb_bytes_48 (r_14 - v5_3)) fun (wr_count_49, tb_count_50, tb_bytes_51) =>
      j144 v4_4 v3_5 wr_count_49 tb_count_50 tb_bytes_51
    else
      jn (fun (wr_count_34 : Int32) (tb_count_35 : Int32) (tb_bytes_36 : (Nat → Int32)) =>
          bd (f_BitWriter_tellNumber wr_keeping wr_count_34 tb_count_35 tb_bytes_36 ((v11_16 - v3_5) - (1 : Int32))) fun (wr_count_37, tb_count_38, tb_bytes_39) =>
          bd (f_BitWriter_tellSigned wr_keeping wr_count_37 tb_count_38 tb_bytes_39 (r_14 - v4_4)) fun (wr_count_40, tb_count_41, tb_bytes_42) =>
          j144 r_14 v11_16 wr_count_40 tb_count_41 tb_bytes_42) fun j112 =>
      if v6_2 ≤ 0 then
        j112 wr_count_6 tb_count_7 tb_bytes_8
      else
        bd (f_BitWriter_tellBits wr_keeping wr_count_6 tb_count_7 tb_bytes_8 (0 : Int32) (1 : Int32)) fun (wr_count_43, tb_count_44, tb_bytes_45) =>
        j112 wr_count_43 tb_count_44 tb_bytes_45

def f_Teller_tellInstances_C (la_count : Int32) (la_ways : (Nat → Int32)) (la_sequence : (Nat → Int32)) (la_symbolOf : (Nat → Int32)) (la_xs : (Nat → Int32)) (di_widths : (Nat → Int32)) (la_ys : (Nat → Int32)) (di_heights : (Nat → Int32)) (wr_keeping : Int32) (wr_count : Int32) (tb_count : Int32) (tb_bytes : (Nat → Int32)) (na_codes : (Nat → Int32)) (na_lengths : (Nat → Int32)) (la_differs : (Nat → Int64)) : Option (Int32 × Int32 × (Nat → Int32)) :=
  gq (2 : Int32) 4 <|
  nl (la_ways ((2 : Int32)).toNatClampNeg) fun v2_1 =>
  lp (f_Teller_tellInstances_C_L19 la_count la_sequence la_symbolOf la_ways la_xs di_widths la_ys di_heights v2_1 wr_keeping na_codes na_lengths la_differs
    (fun (wr_count_9 : Int32) (tb_count_10 : Int32) (tb_bytes_11 : (Nat → Int32)) =>
      if la_count ≤ 0 then
        some (wr_count_9, tb_count_10, tb_bytes_11)
      else
        bd (f_BitWriter_tellBits wr_keeping wr_count_9 tb_count_10 tb_bytes_11 (0 : Int32) (1 : Int32)) fun (wr_count_52, tb_count_53, tb_bytes_54) =>
        some (wr_count_52, tb_count_53, tb_bytes_54))) FU ((0 : Int32), (0 : Int32), (0 : Int32), (-17 : Int32), wr_count, tb_count, tb_bytes)


def f_Teller_tellAll_C_L21 (wr_keeping_1 : Int32) (la_ways : (Nat → Int32)) (k59 : Int32 → Int32 → (Nat → Int32) → Option (Int32 × Int32 × Int32 × Int32 × (Nat → Int32))) (self21 : Int32 × Int32 × Int32 × (Nat → Int32) → Option (Int32 × Int32 × Int32 × Int32 × (Nat → Int32))) : Int32 × Int32 × Int32 × (Nat → Int32) → Option (Int32 × Int32 × Int32 × Int32 × (Nat → Int32))
  | (v3_7, wr_count_8, tb_count_9, tb_bytes_10) =>
  if (4 : Int32) ≤ v3_7 then
    k59 wr_count_8 tb_count_9 tb_bytes_10
  else
    gq v3_7 4 <|
    nl (tb_WAYS_AS_TOLD (v3_7).toNatClampNeg) fun v4_14 =>
    gq v4_14 4 <|
    gq v4_14 4 <|
    bd (f_BitWriter_tellBits wr_keeping_1 wr_count_8 tb_count_9 tb_bytes_10 (la_ways (v4_14).toNatClampNeg) (tb_BITS_OF_WAY (v4_14).toNatClampNeg)) fun (wr_count_15, tb_count_16, tb_bytes_17) =>
    nl (v3_7 + (1 : Int32)) fun v3_18 =>
    self21 (v3_18, wr_count_15, tb_count_16, tb_bytes_17)

def f_Teller_tellAll_C (la_count : Int32) (tb_count : Int32) (tb_bytes : (Nat → Int32)) (la_ways : (Nat → Int32)) (di_count : Int32) (na_lengths : (Nat → Int32)) (la_sequence : (Nat → Int32)) (la_symbolOf : (Nat → Int32)) (la_xs : (Nat → Int32)) (di_widths : (Nat → Int32)) (la_ys : (Nat → Int32)) (di_heights : (Nat → Int32)) (na_codes : (Nat → Int32)) (la_differs : (Nat → Int64)) (p1 : Int32) : Option (Int32 × Int32 × Int32 × Int32 × (Nat → Int32)) :=
  bd (f_BitWriter_start tb_count p1) fun (wr_keeping_1, wr_count_2, tb_count_3) =>
  bd (f_BitWriter_tellNumber wr_keeping_1 wr_count_2 tb_count_3 tb_bytes la_count) fun (wr_count_4, tb_count_5, tb_bytes_6) =>
  lp (f_Teller_tellAll_C_L21 wr_keeping_1 la_ways
    (fun (wr_count_11 : Int32) (tb_count_12 : Int32) (tb_bytes_13 : (Nat → Int32)) =>
      bd (f_CodeNames_tellTable wr_keeping_1 wr_count_11 di_count na_lengths tb_count_12 tb_bytes_13) fun (wr_count_19, tb_count_20, tb_bytes_21) =>
      bd (f_Teller_tellInstances_C la_count la_ways la_sequence la_symbolOf la_xs di_widths la_ys di_heights wr_keeping_1 wr_count_19 tb_count_20 tb_bytes_21 na_codes na_lengths la_differs) fun (wr_count_22, tb_count_23, tb_bytes_24) =>
      some (wr_count_22, wr_keeping_1, wr_count_22, tb_count_23, tb_bytes_24))) FU ((0 : Int32), wr_count_4, tb_count_5, tb_bytes_6)


def f_Teller_prepare_F (la_count : Int32) (la_ways : (Nat → Int32)) (la_ys : (Nat → Int32)) (la_symbolOf : (Nat → Int32)) (di_heights : (Nat → Int32)) (la_xs : (Nat → Int32)) (di_widths : (Nat → Int32)) (la_sequence : (Nat → Int32)) : Option ((Nat → Int32)) :=
  bd (f_Layout_arrange la_count la_ways la_ys la_symbolOf di_heights la_xs di_widths la_sequence) fun la_sequence_1 =>
  bd (f_FrontNames_suit) fun _ =>
  some la_sequence_1


def f_Teller_tellInstances_F_L19 (la_count : Int32) (la_sequence : (Nat → Int32)) (la_symbolOf : (Nat → Int32)) (la_ways : (Nat → Int32)) (la_xs : (Nat → Int32)) (di_widths : (Nat → Int32)) (la_ys : (Nat → Int32)) (di_heights : (Nat → Int32)) (v2_1 : Int32) (wr_keeping : Int32) (di_count : Int32) (la_differs : (Nat → Int64)) (k207 : Int32 → Int32 → (Nat → Int32) → (Nat → Int32) → Option (Int32 × Int32 × (Nat → Int32) × (Nat → Int32))) (self19 : Int32 × Int32 × Int32 × Int32 × Int32 × Int32 × (Nat → Int32) × (Nat → Int32) → Option (Int32 × Int32 × (Nat → Int32) × (Nat → Int32))) : Int32 × Int32 × Int32 × Int32 × Int32 × Int32 × (Nat → Int32) × (Nat → Int32) → Option (Int32 × Int32 × (Nat → Int32) × (Nat → Int32))
  | (v6_2, v5_3, v4_4, v3_5, wr_count_6, tb_count_7, tb_bytes_8, na_row_9) =>
  if la_count ≤ v6_2 then
    k207 wr_count_6 tb_count_7 tb_bytes_8 na_row_9
  else
    gq v6_2 40 <|
    nl (la_sequence (v6_2).toNatClampNeg) fun v7_14 =>
    gq v7_14 40 <|
    nl (la_symbolOf (v7_14).toNatClampNeg) fun v8_15 =>
    bd (f_Layout_cornerS la_ways la_xs la_symbolOf di_widths la_ys di_heights v7_14) fun r_16 =>
    bd (f_Layout_cornerT la_ways la_ys la_symbolOf di_heights la_xs di_widths v7_14) fun r_17 =>
    nl (r_17 >>> (v2_1 &&& 31)) fun v11_18 =>
    jn (fun (v4_19 : Int32) (v3_20 : Int32) (wr_count_21 : Int32) (tb_count_22 : Int32) (tb_bytes_23 : (Nat → Int32)) =>
        bd (f_BitWriter_tellBits wr_keeping wr_count_21 tb_count_22 tb_bytes_23 (r_17 - (v3_20 <<< (v2_1 &&& 31))) v2_1) fun (wr_count_24, tb_count_25, tb_bytes_26) =>
        bd (f_FrontNames_tellName wr_keeping wr_count_24 di_count na_row_9 tb_count_25 tb_bytes_26 v8_15) fun (wr_count_27, na_row_28, tb_count_29, tb_bytes_30) =>
        gq v7_14 40 <|
        bd (f_Dictionary_sampleCount di_widths di_heights v8_15) fun r_31 =>
        bd (f_Teller_tellDiffers wr_keeping wr_count_27 tb_count_29 tb_bytes_30 (la_differs (v7_14).toNatClampNeg) r_31) fun (wr_count_32, tb_count_33, tb_bytes_34) =>
        bd (f_Layout_nextS la_symbolOf la_ways la_xs di_widths la_ys di_heights v7_14) fun r_35 =>
        nl (v6_2 + (1 : Int32)) fun v6_36 =>
        self19 (v6_36, r_35, v4_19, v3_20, wr_count_32, tb_count_33, tb_bytes_34, na_row_28)) fun j144 =>
    if v11_18 = v3_5 then
      bd (f_BitWriter_tellBits wr_keeping wr_count_6 tb_count_7 tb_bytes_8 (1 : Int32) (1 : Int32)) fun (wr_count_49, tb_count_50, tb_bytes_51) =>
      bd (f_BitWriter_tellSigned wr_keeping wr_count_49 tb_count_50 tb_bytes_51 (r_16 - v5_3)) fun (wr_count_52, tb_count_53, tb_bytes_54) =>
      j144 v4_4 v3_5 wr_count_52 tb_count_53 tb_bytes_54
    else
      jn (fun (wr_count_37 : Int32) (tb_count_38 : Int32) (tb_bytes_39 : (Nat → Int32)) =>
          bd (f_BitWriter_tellNumber wr_keeping wr_count_37 tb_count_38 tb_bytes_39 ((v11_18 - v3_5) - (1 : Int32))) fun (wr_count_40, tb_count_41, tb_bytes_42) =>
          bd (f_BitWriter_tellSigned wr_keeping wr_count_40 tb_count_41 tb_bytes_42 (r_16 - v4_4)) fun (wr_count_43, tb_count_44, tb_bytes_45) =>
          j144 r_16 v11_18 wr_count_43 tb_count_44 tb_bytes_45) fun j112 =>
      if v6_2 ≤ 0 then
        j112 wr_count_6 tb_count_7 tb_bytes_8
      else
        bd (f_BitWriter_tellBits wr_keeping wr_count_6 tb_count_7 tb_bytes_8 (0 : Int32) (1 : Int32)) fun (wr_count_46, tb_count_47, tb_bytes_48) =>
        j112 wr_count_46 tb_count_47 tb_bytes_48

def f_Teller_tellInstances_F (la_count : Int32) (la_ways : (Nat → Int32)) (la_sequence : (Nat → Int32)) (la_symbolOf : (Nat → Int32)) (la_xs : (Nat → Int32)) (di_count : Int32) (di_widths : (Nat → Int32)) (la_ys : (Nat → Int32)) (di_heights : (Nat → Int32)) (wr_keeping : Int32) (wr_count : Int32) (tb_count : Int32) (tb_bytes : (Nat → Int32)) (na_row : (Nat → Int32)) (la_differs : (Nat → Int64)) : Option (Int32 × Int32 × (Nat → Int32) × (Nat → Int32)) :=
  gq (2 : Int32) 4 <|
  nl (la_ways ((2 : Int32)).toNatClampNeg) fun v2_1 =>
  lp (f_Teller_tellInstances_F_L19 la_count la_sequence la_symbolOf la_ways la_xs di_widths la_ys di_heights v2_1 wr_keeping di_count la_differs
    (fun (wr_count_10 : Int32) (tb_count_11 : Int32) (tb_bytes_12 : (Nat → Int32)) (na_row_13 : (Nat → Int32)) =>
      if la_count ≤ 0 then
        some (wr_count_10, tb_count_11, tb_bytes_12, na_row_13)
      else
        bd (f_BitWriter_tellBits wr_keeping wr_count_10 tb_count_11 tb_bytes_12 (0 : Int32) (1 : Int32)) fun (wr_count_55, tb_count_56, tb_bytes_57) =>
        some (wr_count_55, tb_count_56, tb_bytes_57, na_row_13))) FU ((0 : Int32), (0 : Int32), (0 : Int32), (-17 : Int32), wr_count, tb_count, tb_bytes, na_row)


def f_Teller_tellAll_F_L21 (wr_keeping_1 : Int32) (la_ways : (Nat → Int32)) (k59 : Int32 → Int32 → (Nat → Int32) → Option (Int32 × Int32 × Int32 × Int32 × (Nat → Int32) × (Nat → Int32))) (self21 : Int32 × Int32 × Int32 × (Nat → Int32) → Option (Int32 × Int32 × Int32 × Int32 × (Nat → Int32) × (Nat → Int32))) : Int32 × Int32 × Int32 × (Nat → Int32) → Option (Int32 × Int32 × Int32 × Int32 × (Nat → Int32) × (Nat → Int32))
  | (v3_7, wr_count_8, tb_count_9, tb_bytes_10) =>
  if (4 : Int32) ≤ v3_7 then
    k59 wr_count_8 tb_count_9 tb_bytes_10
  else
    gq v3_7 4 <|
    nl (tb_WAYS_AS_TOLD (v3_7).toNatClampNeg) fun v4_14 =>
    gq v4_14 4 <|
    gq v4_14 4 <|
    bd (f_BitWriter_tellBits wr_keeping_1 wr_count_8 tb_count_9 tb_bytes_10 (la_ways (v4_14).toNatClampNeg) (tb_BITS_OF_WAY (v4_14).toNatClampNeg)) fun (wr_count_15, tb_count_16, tb_bytes_17) =>
    nl (v3_7 + (1 : Int32)) fun v3_18 =>
    self21 (v3_18, wr_count_15, tb_count_16, tb_bytes_17)

def f_Teller_tellAll_F (la_count : Int32) (tb_count : Int32) (tb_bytes : (Nat → Int32)) (la_ways : (Nat → Int32)) (na_row : (Nat → Int32)) (la_sequence : (Nat → Int32)) (la_symbolOf : (Nat → Int32)) (la_xs : (Nat → Int32)) (di_count : Int32) (di_widths : (Nat → Int32)) (la_ys : (Nat → Int32)) (di_heights : (Nat → Int32)) (la_differs : (Nat → Int64)) (p1 : Int32) : Option (Int32 × Int32 × Int32 × Int32 × (Nat → Int32) × (Nat → Int32)) :=
  bd (f_BitWriter_start tb_count p1) fun (wr_keeping_1, wr_count_2, tb_count_3) =>
  bd (f_BitWriter_tellNumber wr_keeping_1 wr_count_2 tb_count_3 tb_bytes la_count) fun (wr_count_4, tb_count_5, tb_bytes_6) =>
  lp (f_Teller_tellAll_F_L21 wr_keeping_1 la_ways
    (fun (wr_count_11 : Int32) (tb_count_12 : Int32) (tb_bytes_13 : (Nat → Int32)) =>
      bd (f_FrontNames_tellTable na_row) fun na_row_19 =>
      bd (f_Teller_tellInstances_F la_count la_ways la_sequence la_symbolOf la_xs di_count di_widths la_ys di_heights wr_keeping_1 wr_count_11 tb_count_12 tb_bytes_13 na_row_19 la_differs) fun (wr_count_20, tb_count_21, tb_bytes_22, na_row_23) =>
      some (wr_count_20, wr_keeping_1, wr_count_20, tb_count_21, tb_bytes_22, na_row_23))) FU ((0 : Int32), wr_count_4, tb_count_5, tb_bytes_6)


def f_Reader_bitsRead (rd_place : Int32) : Option (Int32) :=
  some rd_place


def f_Reader_readDiffers_L109 (v4_7 : Int32) (r_11 : Int32) (v5_6 : Int32) (v2_4 : Int32) (k151 : (Nat → Int64) → Option (Int32 × Int32 × (Nat → Int64))) (self109 : Int32 × (Nat → Int64) → Option (Int32 × Int32 × (Nat → Int64))) : Int32 × (Nat → Int64) → Option (Int32 × Int32 × (Nat → Int64))
  | (v7_16, la_differs_17) =>
  if (v4_7 + r_11) ≤ v7_16 then
    k151 la_differs_17
  else
    if (v5_6 - v5_6 / (2 : Int32) * (2 : Int32)) = (1 : Int32) then
      gq v2_4 40 <|
      bd (f_Top_withBit (la_differs_17 (v2_4).toNatClampNeg) v7_16 (1 : Int32)) fun r_19 =>
      gq v2_4 40 <|
      nl (v7_16 + (1 : Int32)) fun v7_20 =>
      self109 (v7_20, (vp_updL la_differs_17 (v2_4).toNatClampNeg r_19))
    else
      k151 la_differs_17

def f_Reader_readDiffers_L45 (r_5 : Int32) (cb_count : Int32) (cb_bytes : (Nat → Int32)) (v2_4 : Int32) (self45 : Int32 × Int32 × Int32 × Int32 × (Nat → Int64) → Option (Int32 × Int32 × (Nat → Int64))) : Int32 × Int32 × Int32 × Int32 × (Nat → Int64) → Option (Int32 × Int32 × (Nat → Int64))
  | (v5_6, v4_7, rd_place_8, rd_refusal_9, la_differs_10) =>
  if r_5 < v5_6 then
    some (rd_place_8, rd_refusal_9, la_differs_10)
  else
    if r_5 ≤ v4_7 then
      some (rd_place_8, rd_refusal_9, la_differs_10)
    else
      bd (f_BitReader_nextNumber rd_place_8 rd_refusal_9 cb_count cb_bytes) fun (r_11, rd_place_12, rd_refusal_13) =>
      jn (fun (rd_refusal_14 : Int32) =>
          bd (f_BitReader_isRefused rd_refusal_14) fun r_15 =>
          if r_15 = 0 then
            lp (f_Reader_readDiffers_L109 v4_7 r_11 v5_6 v2_4
              (fun (la_differs_18 : (Nat → Int64)) =>
                nl (v4_7 + r_11) fun v4_21 =>
                nl (v5_6 + (1 : Int32)) fun v5_22 =>
                self45 (v5_22, v4_21, rd_place_12, rd_refusal_14, la_differs_18))) FU (v4_7, la_differs_10)
          else
            some (rd_place_12, rd_refusal_14, la_differs_10)) fun j94 =>
      jn (fun (_ : Unit) =>
          bd (f_BitReader_refuse rd_refusal_13 (7 : Int32)) fun rd_refusal_23 =>
          j94 rd_refusal_23) fun j85 =>
      if (r_5 - v4_7) < r_11 then
        j85 ()
      else
        if r_11 = 0 then
          if v5_6 ≤ 0 then
            j94 rd_refusal_13
          else
            j85 ()
        else
          j94 rd_refusal_13

def f_Reader_readDiffers (la_count : Int32) (rd_place : Int32) (rd_refusal : Int32) (cb_count : Int32) (cb_bytes : (Nat → Int32)) (la_symbolOf : (Nat → Int32)) (di_widths : (Nat → Int32)) (di_heights : (Nat → Int32)) (la_differs : (Nat → Int64)) : Option (Int32 × Int32 × (Nat → Int64)) :=
  bd (f_BitReader_nextBit rd_place rd_refusal cb_count cb_bytes) fun (r_1, rd_place_2, rd_refusal_3) =>
  if r_1 = 0 then
    some (rd_place_2, rd_refusal_3, la_differs)
  else
    if la_count = 0 then
      some (rd_place_2, rd_refusal_3, la_differs)
    else
      nl (la_count - (1 : Int32)) fun v2_4 =>
      gq v2_4 40 <|
      bd (f_Dictionary_sampleCount di_widths di_heights (la_symbolOf (v2_4).toNatClampNeg)) fun r_5 =>
      lp (f_Reader_readDiffers_L45 r_5 cb_count cb_bytes v2_4) FU ((0 : Int32), (0 : Int32), rd_place_2, rd_refusal_3, la_differs)


def f_Reader_readPlaced_C (la_count : Int32) (la_ways : (Nat → Int32)) (rd_place : Int32) (rd_refusal : Int32) (cb_count : Int32) (cb_bytes : (Nat → Int32)) (di_count : Int32) (na_lengths : (Nat → Int32)) (na_codes : (Nat → Int32)) (di_widths : (Nat → Int32)) (di_heights : (Nat → Int32)) (la_symbolOf : (Nat → Int32)) (la_xs : (Nat → Int32)) (la_ys : (Nat → Int32)) (la_differs : (Nat → Int64)) (p1 : Int32) (p2 : Int32) : Option (Int32 × Int32 × Int32 × (Nat → Int32) × (Nat → Int32) × (Nat → Int32) × (Nat → Int64)) :=
  gq (2 : Int32) 4 <|
  nl (la_ways ((2 : Int32)).toNatClampNeg) fun v4_1 =>
  bd (f_BitReader_nextBits rd_place rd_refusal cb_count cb_bytes v4_1) fun (r_2, rd_place_3, rd_refusal_4) =>
  nl ((p2 <<< (v4_1 &&& 31)) + r_2) fun v5_5 =>
  bd (f_CodeNames_readName rd_place_3 rd_refusal_4 di_count na_lengths cb_count cb_bytes na_codes) fun (r_6, rd_place_7, rd_refusal_8) =>
  bd (f_BitReader_isRefused rd_refusal_8) fun r_9 =>
  if r_9 = 0 then
    bd (f_Layout_addByCorner la_count la_ways di_widths di_heights la_symbolOf la_xs la_ys la_differs r_6 p1 v5_5) fun (r_10, la_count_11, la_symbolOf_12, la_xs_13, la_ys_14, la_differs_15) =>
    if r_10 = 0 then
      bd (f_BitReader_refuse rd_refusal_8 (6 : Int32)) fun rd_refusal_16 =>
      some (la_count_11, rd_place_7, rd_refusal_16, la_symbolOf_12, la_xs_13, la_ys_14, la_differs_15)
    else
      some (la_count_11, rd_place_7, rd_refusal_8, la_symbolOf_12, la_xs_13, la_ys_14, la_differs_15)
  else
    some (la_count, rd_place_7, rd_refusal_8, la_symbolOf, la_xs, la_ys, la_differs)


def f_Reader_readInstances_C_L12 (p1 : Int32) (la_ways : (Nat → Int32)) (cb_count : Int32) (cb_bytes : (Nat → Int32)) (di_count : Int32) (na_lengths : (Nat → Int32)) (na_codes : (Nat → Int32)) (di_widths : (Nat → Int32)) (di_heights : (Nat → Int32)) (k119 : Int32 → Int32 → Int32 → Int32 → (Nat → Int32) → (Nat → Int32) → (Nat → Int32) → (Nat → Int64) → Option (Int32 × Int32 × Int32 × (Nat → Int32) × (Nat → Int32) × (Nat → Int32) × (Nat → Int64))) (self12 : Int32 × Int32 × Int32 × Int32 × Int32 × Int32 × Int32 × (Nat → Int32) × (Nat → Int32) × (Nat → Int32) × (Nat → Int64) → Option (Int32 × Int32 × Int32 × (Nat → Int32) × (Nat → Int32) × (Nat → Int32) × (Nat → Int64))) : Int32 × Int32 × Int32 × Int32 × Int32 × Int32 × Int32 × (Nat → Int32) × (Nat → Int32) × (Nat → Int32) × (Nat → Int64) → Option (Int32 × Int32 × Int32 × (Nat → Int32) × (Nat → Int32) × (Nat → Int32) × (Nat → Int64))
  | (v6_1, v5_2, v4_3, v3_4, la_count_5, rd_place_6, rd_refusal_7, la_symbolOf_8, la_xs_9, la_ys_10, la_differs_11) =>
  if p1 ≤ v6_1 then
    k119 v5_2 la_count_5 rd_place_6 rd_refusal_7 la_symbolOf_8 la_xs_9 la_ys_10 la_differs_11
  else
    bd (f_BitReader_isRefused rd_refusal_7) fun r_20 =>
    if r_20 = 0 then
      jn (fun (v4_21 : Int32) (v3_22 : Int32) (v7_23 : Int32) (rd_place_24 : Int32) (rd_refusal_25 : Int32) =>
          bd (f_Reader_readPlaced_C la_count_5 la_ways rd_place_24 rd_refusal_25 cb_count cb_bytes di_count na_lengths na_codes di_widths di_heights la_symbolOf_8 la_xs_9 la_ys_10 la_differs_11 v7_23 v3_22) fun (la_count_26, rd_place_27, rd_refusal_28, la_symbolOf_29, la_xs_30, la_ys_31, la_differs_32) =>
          bd (f_Reader_readDiffers la_count_26 rd_place_27 rd_refusal_28 cb_count cb_bytes la_symbolOf_29 di_widths di_heights la_differs_32) fun (rd_place_33, rd_refusal_34, la_differs_35) =>
          bd (f_BitReader_nextBit rd_place_33 rd_refusal_34 cb_count cb_bytes) fun (r_36, rd_place_37, rd_refusal_38) =>
          jn (fun (s_39 : Int32) =>
              nl (v6_1 + (1 : Int32)) fun v6_40 =>
              self12 (v6_40, s_39, v4_21, v3_22, la_count_26, rd_place_37, rd_refusal_38, la_symbolOf_29, la_xs_30, la_ys_31, la_differs_35)) fun j111 =>
          if r_36 = (1 : Int32) then
            j111 (1 : Int32)
          else
            j111 (0 : Int32)) fun j82 =>
      if v5_2 = 0 then
        bd (f_BitReader_nextNumber rd_place_6 rd_refusal_7 cb_count cb_bytes) fun (r_41, rd_place_42, rd_refusal_43) =>
        nl (v3_4 + (r_41 + (1 : Int32))) fun v3_44 =>
        bd (f_BitReader_nextSigned rd_place_42 rd_refusal_43 cb_count cb_bytes) fun (r_45, rd_place_46, rd_refusal_47) =>
        nl (v4_3 + r_45) fun v7_48 =>
        j82 v7_48 v3_44 v7_48 rd_place_46 rd_refusal_47
      else
        bd (f_Layout_nextS la_symbolOf_8 la_ways la_xs_9 di_widths la_ys_10 di_heights (v6_1 - (1 : Int32))) fun r_49 =>
        bd (f_BitReader_nextSigned rd_place_6 rd_refusal_7 cb_count cb_bytes) fun (r_50, rd_place_51, rd_refusal_52) =>
        nl (r_49 + r_50) fun v7_53 =>
        j82 v4_3 v3_4 v7_53 rd_place_51 rd_refusal_52
    else
      k119 v5_2 la_count_5 rd_place_6 rd_refusal_7 la_symbolOf_8 la_xs_9 la_ys_10 la_differs_11

def f_Reader_readInstances_C (la_count : Int32) (rd_place : Int32) (rd_refusal : Int32) (la_ways : (Nat → Int32)) (cb_count : Int32) (cb_bytes : (Nat → Int32)) (di_count : Int32) (na_lengths : (Nat → Int32)) (na_codes : (Nat → Int32)) (di_widths : (Nat → Int32)) (di_heights : (Nat → Int32)) (la_symbolOf : (Nat → Int32)) (la_xs : (Nat → Int32)) (la_ys : (Nat → Int32)) (la_differs : (Nat → Int64)) (p1 : Int32) : Option (Int32 × Int32 × Int32 × (Nat → Int32) × (Nat → Int32) × (Nat → Int32) × (Nat → Int64)) :=
  lp (f_Reader_readInstances_C_L12 p1 la_ways cb_count cb_bytes di_count na_lengths na_codes di_widths di_heights
    (fun (v5_12 : Int32) (la_count_13 : Int32) (rd_place_14 : Int32) (rd_refusal_15 : Int32) (la_symbolOf_16 : (Nat → Int32)) (la_xs_17 : (Nat → Int32)) (la_ys_18 : (Nat → Int32)) (la_differs_19 : (Nat → Int64)) =>
      if v5_12 = 0 then
        some (la_count_13, rd_place_14, rd_refusal_15, la_symbolOf_16, la_xs_17, la_ys_18, la_differs_19)
      else
        bd (f_BitReader_refuse rd_refusal_15 (2 : Int32)) fun rd_refusal_54 =>
        some (la_count_13, rd_place_14, rd_refusal_54, la_symbolOf_16, la_xs_17, la_ys_18, la_differs_19))) FU ((0 : Int32), (0 : Int32), (0 : Int32), (-17 : Int32), la_count, rd_place, rd_refusal, la_symbolOf, la_xs, la_ys, la_differs)


def f_Reader_readAll_C_L35 (cb_count : Int32) (cb_bytes : (Nat → Int32)) (k73 : Int32 → Int32 → (Nat → Int32) → Option (Int32 × Int32 × Int32 × Int32 × (Nat → Int32) × (Nat → Int32) × (Nat → Int32) × (Nat → Int32) × (Nat → Int32) × (Nat → Int32) × (Nat → Int64))) (self35 : Int32 × Int32 × Int32 × (Nat → Int32) → Option (Int32 × Int32 × Int32 × Int32 × (Nat → Int32) × (Nat → Int32) × (Nat → Int32) × (Nat → Int32) × (Nat → Int32) × (Nat → Int32) × (Nat → Int64))) : Int32 × Int32 × Int32 × (Nat → Int32) → Option (Int32 × Int32 × Int32 × Int32 × (Nat → Int32) × (Nat → Int32) × (Nat → Int32) × (Nat → Int32) × (Nat → Int32) × (Nat → Int32) × (Nat → Int64))
  | (v3_9, rd_place_10, rd_refusal_11, la_ways_12) =>
  if (4 : Int32) ≤ v3_9 then
    k73 rd_place_10 rd_refusal_11 la_ways_12
  else
    gq v3_9 4 <|
    nl (tb_WAYS_AS_TOLD (v3_9).toNatClampNeg) fun v4_16 =>
    gq v4_16 4 <|
    bd (f_BitReader_nextBits rd_place_10 rd_refusal_11 cb_count cb_bytes (tb_BITS_OF_WAY (v4_16).toNatClampNeg)) fun (r_17, rd_place_18, rd_refusal_19) =>
    gq v4_16 4 <|
    nl (v3_9 + (1 : Int32)) fun v3_20 =>
    self35 (v3_20, rd_place_18, rd_refusal_19, (upd la_ways_12 (v4_16).toNatClampNeg r_17))

def f_Reader_readAll_C (la_ways : (Nat → Int32)) (cb_count : Int32) (cb_bytes : (Nat → Int32)) (na_lengths : (Nat → Int32)) (di_count : Int32) (na_codes : (Nat → Int32)) (di_widths : (Nat → Int32)) (di_heights : (Nat → Int32)) (la_symbolOf : (Nat → Int32)) (la_xs : (Nat → Int32)) (la_ys : (Nat → Int32)) (la_differs : (Nat → Int64)) : Option (Int32 × Int32 × Int32 × Int32 × (Nat → Int32) × (Nat → Int32) × (Nat → Int32) × (Nat → Int32) × (Nat → Int32) × (Nat → Int32) × (Nat → Int64)) :=
  bd (f_BitReader_start) fun (rd_place_1, rd_refusal_2) =>
  bd (f_Layout_empty la_ways) fun (la_count_3, la_ways_4) =>
  bd (f_BitReader_nextNumber rd_place_1 rd_refusal_2 cb_count cb_bytes) fun (r_5, rd_place_6, rd_refusal_7) =>
  jn (fun (rd_refusal_8 : Int32) =>
      lp (f_Reader_readAll_C_L35 cb_count cb_bytes
        (fun (rd_place_13 : Int32) (rd_refusal_14 : Int32) (la_ways_15 : (Nat → Int32)) =>
          gq (3 : Int32) 4 <|
          gq (3 : Int32) 4 <|
          jn (fun (rd_refusal_21 : Int32) =>
              bd (f_CodeNames_readTable rd_place_13 rd_refusal_21 na_lengths di_count cb_count cb_bytes na_codes r_5) fun (rd_place_22, rd_refusal_23, na_lengths_24, na_codes_25) =>
              bd (f_Reader_readInstances_C la_count_3 rd_place_22 rd_refusal_23 la_ways_15 cb_count cb_bytes di_count na_lengths_24 na_codes_25 di_widths di_heights la_symbolOf la_xs la_ys la_differs r_5) fun (la_count_26, rd_place_27, rd_refusal_28, la_symbolOf_29, la_xs_30, la_ys_31, la_differs_32) =>
              bd (f_BitReader_readEnd rd_place_27 rd_refusal_28 cb_count cb_bytes) fun (rd_place_33, rd_refusal_34) =>
              some (rd_refusal_34, la_count_26, rd_place_33, rd_refusal_34, la_ways_15, na_lengths_24, na_codes_25, la_symbolOf_29, la_xs_30, la_ys_31, la_differs_32)) fun j95 =>
          if (la_ways_15 ((3 : Int32)).toNatClampNeg) ≤ (tb_MOST_OF_WAY ((3 : Int32)).toNatClampNeg) then
            j95 rd_refusal_14
          else
            bd (f_BitReader_refuse rd_refusal_14 (3 : Int32)) fun rd_refusal_35 =>
            j95 rd_refusal_35)) FU ((0 : Int32), rd_place_6, rd_refusal_8, la_ways_4)) fun j33 =>
  if r_5 ≤ (40 : Int32) then
    j33 rd_refusal_7
  else
    bd (f_BitReader_refuse rd_refusal_7 (2 : Int32)) fun rd_refusal_36 =>
    j33 rd_refusal_36


def f_Reader_readPlaced_F (la_count : Int32) (la_ways : (Nat → Int32)) (rd_place : Int32) (rd_refusal : Int32) (cb_count : Int32) (cb_bytes : (Nat → Int32)) (di_count : Int32) (na_row : (Nat → Int32)) (di_widths : (Nat → Int32)) (di_heights : (Nat → Int32)) (la_symbolOf : (Nat → Int32)) (la_xs : (Nat → Int32)) (la_ys : (Nat → Int32)) (la_differs : (Nat → Int64)) (p1 : Int32) (p2 : Int32) : Option (Int32 × Int32 × Int32 × (Nat → Int32) × (Nat → Int32) × (Nat → Int32) × (Nat → Int32) × (Nat → Int64)) :=
  gq (2 : Int32) 4 <|
  nl (la_ways ((2 : Int32)).toNatClampNeg) fun v4_1 =>
  bd (f_BitReader_nextBits rd_place rd_refusal cb_count cb_bytes v4_1) fun (r_2, rd_place_3, rd_refusal_4) =>
  nl ((p2 <<< (v4_1 &&& 31)) + r_2) fun v5_5 =>
  bd (f_FrontNames_readName rd_place_3 rd_refusal_4 cb_count cb_bytes di_count na_row) fun (r_6, rd_place_7, rd_refusal_8, na_row_9) =>
  bd (f_BitReader_isRefused rd_refusal_8) fun r_10 =>
  if r_10 = 0 then
    bd (f_Layout_addByCorner la_count la_ways di_widths di_heights la_symbolOf la_xs la_ys la_differs r_6 p1 v5_5) fun (r_11, la_count_12, la_symbolOf_13, la_xs_14, la_ys_15, la_differs_16) =>
    if r_11 = 0 then
      bd (f_BitReader_refuse rd_refusal_8 (6 : Int32)) fun rd_refusal_17 =>
      some (la_count_12, rd_place_7, rd_refusal_17, na_row_9, la_symbolOf_13, la_xs_14, la_ys_15, la_differs_16)
    else
      some (la_count_12, rd_place_7, rd_refusal_8, na_row_9, la_symbolOf_13, la_xs_14, la_ys_15, la_differs_16)
  else
    some (la_count, rd_place_7, rd_refusal_8, na_row_9, la_symbolOf, la_xs, la_ys, la_differs)


def f_Reader_readInstances_F_L12 (p1 : Int32) (la_ways : (Nat → Int32)) (cb_count : Int32) (cb_bytes : (Nat → Int32)) (di_count : Int32) (di_widths : (Nat → Int32)) (di_heights : (Nat → Int32)) (k119 : Int32 → Int32 → Int32 → Int32 → (Nat → Int32) → (Nat → Int32) → (Nat → Int32) → (Nat → Int32) → (Nat → Int64) → Option (Int32 × Int32 × Int32 × (Nat → Int32) × (Nat → Int32) × (Nat → Int32) × (Nat → Int32) × (Nat → Int64))) (self12 : Int32 × Int32 × Int32 × Int32 × Int32 × Int32 × Int32 × (Nat → Int32) × (Nat → Int32) × (Nat → Int32) × (Nat → Int32) × (Nat → Int64) → Option (Int32 × Int32 × Int32 × (Nat → Int32) × (Nat → Int32) × (Nat → Int32) × (Nat → Int32) × (Nat → Int64))) : Int32 × Int32 × Int32 × Int32 × Int32 × Int32 × Int32 × (Nat → Int32) × (Nat → Int32) × (Nat → Int32) × (Nat → Int32) × (Nat → Int64) → Option (Int32 × Int32 × Int32 × (Nat → Int32) × (Nat → Int32) × (Nat → Int32) × (Nat → Int32) × (Nat → Int64))
  | (v6_1, v5_2, v4_3, v3_4, la_count_5, rd_place_6, rd_refusal_7, na_row_8, la_symbolOf_9, la_xs_10, la_ys_11, la_differs_12) =>
  if p1 ≤ v6_1 then
    k119 v5_2 la_count_5 rd_place_6 rd_refusal_7 na_row_8 la_symbolOf_9 la_xs_10 la_ys_11 la_differs_12
  else
    bd (f_BitReader_isRefused rd_refusal_7) fun r_22 =>
    if r_22 = 0 then
      jn (fun (v4_23 : Int32) (v3_24 : Int32) (v7_25 : Int32) (rd_place_26 : Int32) (rd_refusal_27 : Int32) =>
          bd (f_Reader_readPlaced_F la_count_5 la_ways rd_place_26 rd_refusal_27 cb_count cb_bytes di_count na_row_8 di_widths di_heights la_symbolOf_9 la_xs_10 la_ys_11 la_differs_12 v7_25 v3_24) fun (la_count_28, rd_place_29, rd_refusal_30, na_row_31, la_symbolOf_32, la_xs_33, la_ys_34, la_differs_35) =>
          bd (f_Reader_readDiffers la_count_28 rd_place_29 rd_refusal_30 cb_count cb_bytes la_symbolOf_32 di_widths di_heights la_differs_35) fun (rd_place_36, rd_refusal_37, la_differs_38) =>
          bd (f_BitReader_nextBit rd_place_36 rd_refusal_37 cb_count cb_bytes) fun (r_39, rd_place_40, rd_refusal_41) =>
          jn (fun (s_42 : Int32) =>
              nl (v6_1 + (1 : Int32)) fun v6_43 =>
              self12 (v6_43, s_42, v4_23, v3_24, la_count_28, rd_place_40, rd_refusal_41, na_row_31, la_symbolOf_32, la_xs_33, la_ys_34, la_differs_38)) fun j111 =>
          if r_39 = (1 : Int32) then
            j111 (1 : Int32)
          else
            j111 (0 : Int32)) fun j82 =>
      if v5_2 = 0 then
        bd (f_BitReader_nextNumber rd_place_6 rd_refusal_7 cb_count cb_bytes) fun (r_44, rd_place_45, rd_refusal_46) =>
        nl (v3_4 + (r_44 + (1 : Int32))) fun v3_47 =>
        bd (f_BitReader_nextSigned rd_place_45 rd_refusal_46 cb_count cb_bytes) fun (r_48, rd_place_49, rd_refusal_50) =>
        nl (v4_3 + r_48) fun v7_51 =>
        j82 v7_51 v3_47 v7_51 rd_place_49 rd_refusal_50
      else
        bd (f_Layout_nextS la_symbolOf_9 la_ways la_xs_10 di_widths la_ys_11 di_heights (v6_1 - (1 : Int32))) fun r_52 =>
        bd (f_BitReader_nextSigned rd_place_6 rd_refusal_7 cb_count cb_bytes) fun (r_53, rd_place_54, rd_refusal_55) =>
        nl (r_52 + r_53) fun v7_56 =>
        j82 v4_3 v3_4 v7_56 rd_place_54 rd_refusal_55
    else
      k119 v5_2 la_count_5 rd_place_6 rd_refusal_7 na_row_8 la_symbolOf_9 la_xs_10 la_ys_11 la_differs_12

def f_Reader_readInstances_F (la_count : Int32) (rd_place : Int32) (rd_refusal : Int32) (la_ways : (Nat → Int32)) (cb_count : Int32) (cb_bytes : (Nat → Int32)) (di_count : Int32) (na_row : (Nat → Int32)) (di_widths : (Nat → Int32)) (di_heights : (Nat → Int32)) (la_symbolOf : (Nat → Int32)) (la_xs : (Nat → Int32)) (la_ys : (Nat → Int32)) (la_differs : (Nat → Int64)) (p1 : Int32) : Option (Int32 × Int32 × Int32 × (Nat → Int32) × (Nat → Int32) × (Nat → Int32) × (Nat → Int32) × (Nat → Int64)) :=
  lp (f_Reader_readInstances_F_L12 p1 la_ways cb_count cb_bytes di_count di_widths di_heights
    (fun (v5_13 : Int32) (la_count_14 : Int32) (rd_place_15 : Int32) (rd_refusal_16 : Int32) (na_row_17 : (Nat → Int32)) (la_symbolOf_18 : (Nat → Int32)) (la_xs_19 : (Nat → Int32)) (la_ys_20 : (Nat → Int32)) (la_differs_21 : (Nat → Int64)) =>
      if v5_13 = 0 then
        some (la_count_14, rd_place_15, rd_refusal_16, na_row_17, la_symbolOf_18, la_xs_19, la_ys_20, la_differs_21)
      else
        bd (f_BitReader_refuse rd_refusal_16 (2 : Int32)) fun rd_refusal_57 =>
        some (la_count_14, rd_place_15, rd_refusal_57, na_row_17, la_symbolOf_18, la_xs_19, la_ys_20, la_differs_21))) FU ((0 : Int32), (0 : Int32), (0 : Int32), (-17 : Int32), la_count, rd_place, rd_refusal, na_row, la_symbolOf, la_xs, la_ys, la_differs)


def f_Reader_readAll_F_L35 (cb_count : Int32) (cb_bytes : (Nat → Int32)) (k73 : Int32 → Int32 → (Nat → Int32) → Option (Int32 × Int32 × Int32 × Int32 × (Nat → Int32) × (Nat → Int32) × (Nat → Int32) × (Nat → Int32) × (Nat → Int32) × (Nat → Int64))) (self35 : Int32 × Int32 × Int32 × (Nat → Int32) → Option (Int32 × Int32 × Int32 × Int32 × (Nat → Int32) × (Nat → Int32) × (Nat → Int32) × (Nat → Int32) × (Nat → Int32) × (Nat → Int64))) : Int32 × Int32 × Int32 × (Nat → Int32) → Option (Int32 × Int32 × Int32 × Int32 × (Nat → Int32) × (Nat → Int32) × (Nat → Int32) × (Nat → Int32) × (Nat → Int32) × (Nat → Int64))
  | (v3_9, rd_place_10, rd_refusal_11, la_ways_12) =>
  if (4 : Int32) ≤ v3_9 then
    k73 rd_place_10 rd_refusal_11 la_ways_12
  else
    gq v3_9 4 <|
    nl (tb_WAYS_AS_TOLD (v3_9).toNatClampNeg) fun v4_16 =>
    gq v4_16 4 <|
    bd (f_BitReader_nextBits rd_place_10 rd_refusal_11 cb_count cb_bytes (tb_BITS_OF_WAY (v4_16).toNatClampNeg)) fun (r_17, rd_place_18, rd_refusal_19) =>
    gq v4_16 4 <|
    nl (v3_9 + (1 : Int32)) fun v3_20 =>
    self35 (v3_20, rd_place_18, rd_refusal_19, (upd la_ways_12 (v4_16).toNatClampNeg r_17))

def f_Reader_readAll_F (la_ways : (Nat → Int32)) (cb_count : Int32) (cb_bytes : (Nat → Int32)) (na_row : (Nat → Int32)) (di_count : Int32) (di_widths : (Nat → Int32)) (di_heights : (Nat → Int32)) (la_symbolOf : (Nat → Int32)) (la_xs : (Nat → Int32)) (la_ys : (Nat → Int32)) (la_differs : (Nat → Int64)) : Option (Int32 × Int32 × Int32 × Int32 × (Nat → Int32) × (Nat → Int32) × (Nat → Int32) × (Nat → Int32) × (Nat → Int32) × (Nat → Int64)) :=
  bd (f_BitReader_start) fun (rd_place_1, rd_refusal_2) =>
  bd (f_Layout_empty la_ways) fun (la_count_3, la_ways_4) =>
  bd (f_BitReader_nextNumber rd_place_1 rd_refusal_2 cb_count cb_bytes) fun (r_5, rd_place_6, rd_refusal_7) =>
  jn (fun (rd_refusal_8 : Int32) =>
      lp (f_Reader_readAll_F_L35 cb_count cb_bytes
        (fun (rd_place_13 : Int32) (rd_refusal_14 : Int32) (la_ways_15 : (Nat → Int32)) =>
          gq (3 : Int32) 4 <|
          gq (3 : Int32) 4 <|
          jn (fun (rd_refusal_21 : Int32) =>
              bd (f_FrontNames_readTable na_row r_5) fun na_row_22 =>
              bd (f_Reader_readInstances_F la_count_3 rd_place_13 rd_refusal_21 la_ways_15 cb_count cb_bytes di_count na_row_22 di_widths di_heights la_symbolOf la_xs la_ys la_differs r_5) fun (la_count_23, rd_place_24, rd_refusal_25, na_row_26, la_symbolOf_27, la_xs_28, la_ys_29, la_differs_30) =>
              bd (f_BitReader_readEnd rd_place_24 rd_refusal_25 cb_count cb_bytes) fun (rd_place_31, rd_refusal_32) =>
              some (rd_refusal_32, la_count_23, rd_place_31, rd_refusal_32, la_ways_15, na_row_26, la_symbolOf_27, la_xs_28, la_ys_29, la_differs_30)) fun j95 =>
          if (la_ways_15 ((3 : Int32)).toNatClampNeg) ≤ (tb_MOST_OF_WAY ((3 : Int32)).toNatClampNeg) then
            j95 rd_refusal_14
          else
            bd (f_BitReader_refuse rd_refusal_14 (3 : Int32)) fun rd_refusal_33 =>
            j95 rd_refusal_33)) FU ((0 : Int32), rd_place_6, rd_refusal_8, la_ways_4)) fun j33 =>
  if r_5 ≤ (40 : Int32) then
    j33 rd_refusal_7
  else
    bd (f_BitReader_refuse rd_refusal_7 (2 : Int32)) fun rd_refusal_34 =>
    j33 rd_refusal_34


def f_Top_symbol (di_count : Int32) (di_widths : (Nat → Int32)) (di_heights : (Nat → Int32)) (di_samples : (Nat → Int64)) (p0 : Int32) (p1 : Int32) : Option (String ⊕ (Int32 × Int32 × (Nat → Int32) × (Nat → Int32) × (Nat → Int64))) :=
  bd (f_Top_isWithin p0 (1 : Int32) (8 : Int32)) fun r_1 =>
  jn (fun (_ : Unit) =>
      some (.inl "java/lang/IllegalArgumentException")) fun j20 =>
  if r_1 = 0 then
    j20 ()
  else
    bd (f_Top_isWithin p1 (1 : Int32) (8 : Int32)) fun r_2 =>
    if r_2 = 0 then
      j20 ()
    else
      if di_count < (16 : Int32) then
        bd (f_Dictionary_add di_count di_widths di_heights di_samples p0 p1) fun (r_3, di_count_4, di_widths_5, di_heights_6, di_samples_7) =>
        some (.inr (r_3, di_count_4, di_widths_5, di_heights_6, di_samples_7))
      else
        some (.inl "java/lang/UnsupportedOperationException")


def f_Top_put (di_count : Int32) (di_widths : (Nat → Int32)) (di_heights : (Nat → Int32)) (di_samples : (Nat → Int64)) (p0 : Int32) (p1 : Int32) (p2 : Int32) (p3 : Int32) : Option (String ⊕ (Int32 × (Nat → Int64))) :=
  bd (f_Dictionary_has di_count p0) fun r_1 =>
  jn (fun (_ : Unit) =>
      some (.inl "java/lang/IndexOutOfBoundsException")) fun j24 =>
  if r_1 = 0 then
    j24 ()
  else
    bd (f_Dictionary_hasSample di_widths di_heights p0 p1 p2) fun r_2 =>
    if r_2 = 0 then
      j24 ()
    else
      gq p0 16 <|
      nl (di_samples (p0).toNatClampNeg) fun v5_3 =>
      bd (f_Dictionary_sampleNumber di_widths p0 p1 p2) fun r_4 =>
      bd (f_Top_withBit v5_3 r_4 p3) fun r_5 =>
      gq p0 16 <|
      gq p0 16 <|
      if (lg_cmp ((vp_updL di_samples (p0).toNatClampNeg r_5) (p0).toNatClampNeg) v5_3) = 0 then
        some (.inr ((0 : Int32), (vp_updL di_samples (p0).toNatClampNeg r_5)))
      else
        some (.inr ((1 : Int32), (vp_updL di_samples (p0).toNatClampNeg r_5)))


def f_Top_instance (di_count : Int32) (la_count : Int32) (la_symbolOf : (Nat → Int32)) (la_xs : (Nat → Int32)) (la_ys : (Nat → Int32)) (la_differs : (Nat → Int64)) (p0 : Int32) (p1 : Int32) (p2 : Int32) : Option (String ⊕ (Int32 × Int32 × (Nat → Int32) × (Nat → Int32) × (Nat → Int32) × (Nat → Int64))) :=
  bd (f_Dictionary_has di_count p0) fun r_1 =>
  if r_1 = 0 then
    some (.inl "java/lang/IndexOutOfBoundsException")
  else
    bd (f_Top_isPlace p1) fun r_2 =>
    jn (fun (_ : Unit) =>
        some (.inl "java/lang/IllegalArgumentException")) fun j35 =>
    if r_2 = 0 then
      j35 ()
    else
      bd (f_Top_isPlace p2) fun r_3 =>
      if r_3 = 0 then
        j35 ()
      else
        if la_count < (40 : Int32) then
          bd (f_Layout_add la_count la_symbolOf la_xs la_ys la_differs p0 p1 p2) fun (r_4, la_count_5, la_symbolOf_6, la_xs_7, la_ys_8, la_differs_9) =>
          some (.inr (r_4, la_count_5, la_symbolOf_6, la_xs_7, la_ys_8, la_differs_9))
        else
          some (.inl "java/lang/UnsupportedOperationException")


def f_Top_refine (la_count : Int32) (la_symbolOf : (Nat → Int32)) (di_widths : (Nat → Int32)) (di_heights : (Nat → Int32)) (la_differs : (Nat → Int64)) (p0 : Int32) (p1 : Int32) (p2 : Int32) (p3 : Int32) : Option (String ⊕ (Int32 × (Nat → Int64))) :=
  bd (f_Layout_has la_count p0) fun r_1 =>
  jn (fun (_ : Unit) =>
      some (.inl "java/lang/IndexOutOfBoundsException")) fun j32 =>
  if r_1 = 0 then
    j32 ()
  else
    gq p0 40 <|
    bd (f_Dictionary_hasSample di_widths di_heights (la_symbolOf (p0).toNatClampNeg) p1 p2) fun r_2 =>
    if r_2 = 0 then
      j32 ()
    else
      gq p0 40 <|
      nl (la_differs (p0).toNatClampNeg) fun v5_3 =>
      gq p0 40 <|
      bd (f_Dictionary_sampleNumber di_widths (la_symbolOf (p0).toNatClampNeg) p1 p2) fun r_4 =>
      bd (f_Top_withBit v5_3 r_4 p3) fun r_5 =>
      gq p0 40 <|
      gq p0 40 <|
      if (lg_cmp ((vp_updL la_differs (p0).toNatClampNeg r_5) (p0).toNatClampNeg) v5_3) = 0 then
        some (.inr ((0 : Int32), (vp_updL la_differs (p0).toNatClampNeg r_5)))
      else
        some (.inr ((1 : Int32), (vp_updL la_differs (p0).toNatClampNeg r_5)))


def f_Top_way (la_ways : (Nat → Int32)) (p0 : Int32) (p1 : Int32) : Option (String ⊕ (Int32 × (Nat → Int32))) :=
  bd (f_Top_isWithin p0 (0 : Int32) (3 : Int32)) fun r_1 =>
  jn (fun (_ : Unit) =>
      some (.inl "java/lang/IllegalArgumentException")) fun j22 =>
  if r_1 = 0 then
    j22 ()
  else
    gq p0 4 <|
    bd (f_Top_isWithin p1 (0 : Int32) (tb_MOST_OF_WAY (p0).toNatClampNeg)) fun r_2 =>
    if r_2 = 0 then
      j22 ()
    else
      gq p0 4 <|
      nl (la_ways (p0).toNatClampNeg) fun v3_3 =>
      gq p0 4 <|
      some (.inr (v3_3, (upd la_ways (p0).toNatClampNeg p1)))


def f_Top_compose_L16 (la_count : Int32) (pg_width : Int32) (pg_height : Int32) (la_symbolOf : (Nat → Int32)) (di_samples : (Nat → Int64)) (la_differs : (Nat → Int64)) (di_heights : (Nat → Int32)) (di_widths : (Nat → Int32)) (la_xs : (Nat → Int32)) (la_ys : (Nat → Int32)) (la_ways : (Nat → Int32)) (n_pg_dark : Nat) (la_sequence_1 : (Nat → Int32)) (k53 : (Nat → Int32) → Option (Int32 × (Nat → Int32) × (Nat → Int32))) (self16 : Int32 × (Nat → Int32) → Option (Int32 × (Nat → Int32) × (Nat → Int32))) : Int32 × (Nat → Int32) → Option (Int32 × (Nat → Int32) × (Nat → Int32))
  | (v1_3, pg_dark_4) =>
  if la_count ≤ v1_3 then
    k53 pg_dark_4
  else
    gq v1_3 40 <|
    bd (f_Page_lay pg_width pg_height la_symbolOf di_samples la_differs di_heights di_widths la_xs la_ys la_ways n_pg_dark pg_dark_4 (la_sequence_1 (v1_3).toNatClampNeg)) fun pg_dark_6 =>
    nl (v1_3 + (1 : Int32)) fun v1_7 =>
    self16 (v1_7, pg_dark_6)

def f_Top_compose (la_count : Int32) (la_ways : (Nat → Int32)) (la_ys : (Nat → Int32)) (la_symbolOf : (Nat → Int32)) (di_heights : (Nat → Int32)) (la_xs : (Nat → Int32)) (di_widths : (Nat → Int32)) (la_sequence : (Nat → Int32)) (pg_width : Int32) (pg_height : Int32) (n_pg_dark : Nat) (pg_dark : (Nat → Int32)) (di_samples : (Nat → Int64)) (la_differs : (Nat → Int64)) : Option (Int32 × (Nat → Int32) × (Nat → Int32)) :=
  bd (f_Layout_arrange la_count la_ways la_ys la_symbolOf di_heights la_xs di_widths la_sequence) fun la_sequence_1 =>
  bd (f_Page_lighten n_pg_dark pg_dark) fun pg_dark_2 =>
  lp (f_Top_compose_L16 la_count pg_width pg_height la_symbolOf di_samples la_differs di_heights di_widths la_xs la_ys la_ways n_pg_dark la_sequence_1
    (fun (pg_dark_5 : (Nat → Int32)) =>
      bd (f_Page_countDark n_pg_dark pg_dark_5) fun r_8 =>
      some (r_8, la_sequence_1, pg_dark_5))) FU ((0 : Int32), pg_dark_2)


def f_Top_at (pg_width : Int32) (pg_height : Int32) (n_pg_dark : Nat) (pg_dark : (Nat → Int32)) (p0 : Int32) (p1 : Int32) : Option (String ⊕ (Int32)) :=
  bd (f_Page_has pg_width pg_height p0 p1) fun r_1 =>
  if r_1 = 0 then
    some (.inl "java/lang/IndexOutOfBoundsException")
  else
    gq ((p1 * pg_width) + p0) n_pg_dark <|
    bz (pg_dark (((p1 * pg_width) + p0)).toNatClampNeg) <|
    some (.inr (pg_dark (((p1 * pg_width) + p0)).toNatClampNeg))


def f_Top_byteAt (tb_count : Int32) (tb_bytes : (Nat → Int32)) (p0 : Int32) : Option (String ⊕ (Int32)) :=
  bd (f_Top_isWithin p0 (0 : Int32) (tb_count - (1 : Int32))) fun r_1 =>
  if r_1 = 0 then
    some (.inl "java/lang/IndexOutOfBoundsException")
  else
    gq p0 2000 <|
    some (.inr (tb_bytes (p0).toNatClampNeg))


def f_Top_feed (cb_count : Int32) (cb_bytes : (Nat → Int32)) (p0 : Int32) : Option (String ⊕ (Int32 × Int32 × (Nat → Int32))) :=
  bd (f_Top_isWithin p0 (0 : Int32) (255 : Int32)) fun r_1 =>
  if r_1 = 0 then
    some (.inl "java/lang/IllegalArgumentException")
  else
    if cb_count < (2000 : Int32) then
      bd (f_ByteRow_append cb_count cb_bytes p0) fun (cb_count_2, cb_bytes_3) =>
      some (.inr (cb_count_2, cb_count_2, cb_bytes_3))
    else
      some (.inl "java/lang/UnsupportedOperationException")


def f_Top_pass_L33 (tb_count : Int32) (tb_bytes : (Nat → Int32)) (self33 : Int32 × Int32 × (Nat → Int32) → Option (String ⊕ (Int32 × Int32 × (Nat → Int32)))) : Int32 × Int32 × (Nat → Int32) → Option (String ⊕ (Int32 × Int32 × (Nat → Int32)))
  | (v1_1, cb_count_2, cb_bytes_3) =>
  if tb_count ≤ v1_1 then
    some (.inr (cb_count_2, cb_count_2, cb_bytes_3))
  else
    gq v1_1 2000 <|
    bd (f_ByteRow_append cb_count_2 cb_bytes_3 (tb_bytes (v1_1).toNatClampNeg)) fun (cb_count_4, cb_bytes_5) =>
    nl (v1_1 + (1 : Int32)) fun v1_6 =>
    self33 (v1_6, cb_count_4, cb_bytes_5)

def f_Top_pass (tb_count : Int32) (cb_count : Int32) (tb_bytes : (Nat → Int32)) (cb_bytes : (Nat → Int32)) : Option (String ⊕ (Int32 × Int32 × (Nat → Int32))) :=
  if tb_count ≤ ((2000 : Int32) - cb_count) then
    lp (f_Top_pass_L33 tb_count tb_bytes) FU ((0 : Int32), cb_count, cb_bytes)
  else
    some (.inl "java/lang/UnsupportedOperationException")


def f_Top_place (la_count : Int32) (la_symbolOf : (Nat → Int32)) (la_xs : (Nat → Int32)) (la_ys : (Nat → Int32)) (la_ways : (Nat → Int32)) (di_widths : (Nat → Int32)) (di_heights : (Nat → Int32)) (la_differs : (Nat → Int64)) (p0 : Int32) (p1 : Int32) : Option (String ⊕ (Int32)) :=
  bd (f_Layout_has la_count p0) fun r_1 =>
  if r_1 = 0 then
    some (.inl "java/lang/IndexOutOfBoundsException")
  else
    if p1 = (0 : Int32) then
      gq p0 40 <|
      some (.inr (la_symbolOf (p0).toNatClampNeg))
    else
    if p1 = (1 : Int32) then
      gq p0 40 <|
      some (.inr (la_xs (p0).toNatClampNeg))
    else
    if p1 = (2 : Int32) then
      gq p0 40 <|
      some (.inr (la_ys (p0).toNatClampNeg))
    else
    if p1 = (3 : Int32) then
      bd (f_Layout_cornerS la_ways la_xs la_symbolOf di_widths la_ys di_heights p0) fun r_2 =>
      some (.inr r_2)
    else
    if p1 = (4 : Int32) then
      bd (f_Layout_cornerT la_ways la_ys la_symbolOf di_heights la_xs di_widths p0) fun r_3 =>
      some (.inr r_3)
    else
    if p1 = (5 : Int32) then
      bd (f_Layout_strip la_ways la_ys la_symbolOf di_heights la_xs di_widths p0) fun r_4 =>
      some (.inr r_4)
    else
    if p1 = (6 : Int32) then
      gq p0 40 <|
      bd (f_Long_bitCount (la_differs (p0).toNatClampNeg)) fun r_5 =>
      some (.inr r_5)
    else
      some (.inr (-1 : Int32))


def f_Top_told (tr_kind : Int32) (tr_refusedAt : Int32) (pg_width : Int32) (pg_height : Int32) (di_count : Int32) (la_count : Int32) (tb_count : Int32) (cb_count : Int32) (p0 : Int32) : Option (Int32) :=
  if p0 = (0 : Int32) then
    some pg_width
  else
  if p0 = (1 : Int32) then
    some pg_height
  else
  if p0 = (2 : Int32) then
    some tr_kind
  else
  if p0 = (3 : Int32) then
    some di_count
  else
  if p0 = (4 : Int32) then
    some la_count
  else
  if p0 = (5 : Int32) then
    some tb_count
  else
  if p0 = (6 : Int32) then
    some cb_count
  else
  if p0 = (7 : Int32) then
    some tr_refusedAt
  else
    some (-1 : Int32)


def f_Top_clear (la_ways : (Nat → Int32)) (n_pg_dark : Nat) (pg_dark : (Nat → Int32)) : Option (Int32 × Int32 × (Nat → Int32) × Int32 × Int32 × (Nat → Int32)) :=
  bd (f_Layout_empty la_ways) fun (la_count_1, la_ways_2) =>
  bd (f_Page_lighten n_pg_dark pg_dark) fun pg_dark_3 =>
  some ((0 : Int32), la_count_1, la_ways_2, (0 : Int32), (0 : Int32), pg_dark_3)


def f_Top_changeNeighbours_C_L17 (la_count : Int32) (la_ways : (Nat → Int32)) (di_heights : (Nat → Int32)) (di_widths : (Nat → Int32)) (di_count : Int32) (na_lengths : (Nat → Int32)) (la_sequence : (Nat → Int32)) (na_codes : (Nat → Int32)) (self17 : Int32 × Int32 × Int32 × Int32 × Int32 × Int32 × (Nat → Int32) × (Nat → Int32) × (Nat → Int32) × (Nat → Int32) × (Nat → Int64) → Option (Int32 × Int32 × Int32 × Int32 × (Nat → Int32) × (Nat → Int32) × (Nat → Int32) × (Nat → Int32) × (Nat → Int64))) : Int32 × Int32 × Int32 × Int32 × Int32 × Int32 × (Nat → Int32) × (Nat → Int32) × (Nat → Int32) × (Nat → Int32) × (Nat → Int64) → Option (Int32 × Int32 × Int32 × Int32 × (Nat → Int32) × (Nat → Int32) × (Nat → Int32) × (Nat → Int32) × (Nat → Int64))
  | (v3_6, v2_7, v1_8, wr_keeping_9, wr_count_10, tb_count_11, tb_bytes_12, la_symbolOf_13, la_xs_14, la_ys_15, la_differs_16) =>
  if la_count ≤ (v3_6 + (1 : Int32)) then
    bz v1_8 <|
    some (v1_8, wr_keeping_9, wr_count_10, tb_count_11, tb_bytes_12, la_symbolOf_13, la_xs_14, la_ys_15, la_differs_16)
  else
    bd (f_Layout_strip la_ways la_ys_15 la_symbolOf_13 di_heights la_xs_14 di_widths v3_6) fun r_17 =>
    bd (f_Layout_strip la_ways la_ys_15 la_symbolOf_13 di_heights la_xs_14 di_widths (v3_6 + (1 : Int32))) fun r_18 =>
    jn (fun (v2_19 : Int32) (v1_20 : Int32) (wr_keeping_21 : Int32) (wr_count_22 : Int32) (tb_count_23 : Int32) (tb_bytes_24 : (Nat → Int32)) (la_symbolOf_25 : (Nat → Int32)) (la_xs_26 : (Nat → Int32)) (la_ys_27 : (Nat → Int32)) (la_differs_28 : (Nat → Int64)) =>
        nl (v3_6 + (1 : Int32)) fun v3_29 =>
        self17 (v3_29, v2_19, v1_20, wr_keeping_21, wr_count_22, tb_count_23, tb_bytes_24, la_symbolOf_25, la_xs_26, la_ys_27, la_differs_28)) fun j95 =>
    if r_17 = r_18 then
      bd (f_Layout_swapWithNext la_symbolOf_13 la_xs_14 la_ys_15 la_differs_16 v3_6) fun (la_symbolOf_30, la_xs_31, la_ys_32, la_differs_33) =>
      bd (f_Teller_tellAll_C la_count tb_count_11 tb_bytes_12 la_ways di_count na_lengths la_sequence la_symbolOf_30 la_xs_31 di_widths la_ys_32 di_heights na_codes la_differs_33 (0 : Int32)) fun (r_34, wr_keeping_35, wr_count_36, tb_count_37, tb_bytes_38) =>
      if v2_7 ≤ r_34 then
        bd (f_Layout_swapWithNext la_symbolOf_30 la_xs_31 la_ys_32 la_differs_33 v3_6) fun (la_symbolOf_39, la_xs_40, la_ys_41, la_differs_42) =>
        j95 v2_7 v1_8 wr_keeping_35 wr_count_36 tb_count_37 tb_bytes_38 la_symbolOf_39 la_xs_40 la_ys_41 la_differs_42
      else
        j95 r_34 (1 : Int32) wr_keeping_35 wr_count_36 tb_count_37 tb_bytes_38 la_symbolOf_30 la_xs_31 la_ys_32 la_differs_33
    else
      j95 v2_7 v1_8 wr_keeping_9 wr_count_10 tb_count_11 tb_bytes_12 la_symbolOf_13 la_xs_14 la_ys_15 la_differs_16

def f_Top_changeNeighbours_C (la_count : Int32) (tb_count : Int32) (tb_bytes : (Nat → Int32)) (la_ways : (Nat → Int32)) (di_count : Int32) (na_lengths : (Nat → Int32)) (la_sequence : (Nat → Int32)) (la_symbolOf : (Nat → Int32)) (la_xs : (Nat → Int32)) (di_widths : (Nat → Int32)) (la_ys : (Nat → Int32)) (di_heights : (Nat → Int32)) (na_codes : (Nat → Int32)) (la_differs : (Nat → Int64)) : Option (Int32 × Int32 × Int32 × Int32 × (Nat → Int32) × (Nat → Int32) × (Nat → Int32) × (Nat → Int32) × (Nat → Int64)) :=
  bd (f_Teller_tellAll_C la_count tb_count tb_bytes la_ways di_count na_lengths la_sequence la_symbolOf la_xs di_widths la_ys di_heights na_codes la_differs (0 : Int32)) fun (r_1, wr_keeping_2, wr_count_3, tb_count_4, tb_bytes_5) =>
  lp (f_Top_changeNeighbours_C_L17 la_count la_ways di_heights di_widths di_count na_lengths la_sequence na_codes) FU ((0 : Int32), r_1, (0 : Int32), wr_keeping_2, wr_count_3, tb_count_4, tb_bytes_5, la_symbolOf, la_xs, la_ys, la_differs)


def f_Top_order_C_L48 (p0 : Int32) (j68 : (Nat → Int32) → (Nat → Int32) → (Nat → Int32) → Int32 → Int32 → Int32 → (Nat → Int32) → (Nat → Int64) → Option (String ⊕ (Int32 × (Nat → Int32) × (Nat → Int32) × (Nat → Int32) × (Nat → Int32) × (Nat → Int32) × (Nat → Int32) × (Nat → Int32) × (Nat → Int32) × Int32 × Int32 × Int32 × (Nat → Int32) × (Nat → Int64)))) (la_count : Int32) (la_ways : (Nat → Int32)) (di_count : Int32) (na_lengths_5 : (Nat → Int32)) (la_sequence_2 : (Nat → Int32)) (di_widths : (Nat → Int32)) (di_heights : (Nat → Int32)) (na_codes_6 : (Nat → Int32)) (self48 : Int32 × Int32 × (Nat → Int32) × (Nat → Int32) × (Nat → Int32) × Int32 × Int32 × Int32 × (Nat → Int32) × (Nat → Int64) → Option (String ⊕ (Int32 × (Nat → Int32) × (Nat → Int32) × (Nat → Int32) × (Nat → Int32) × (Nat → Int32) × (Nat → Int32) × (Nat → Int32) × (Nat → Int32) × Int32 × Int32 × Int32 × (Nat → Int32) × (Nat → Int64)))) : Int32 × Int32 × (Nat → Int32) × (Nat → Int32) × (Nat → Int32) × Int32 × Int32 × Int32 × (Nat → Int32) × (Nat → Int64) → Option (String ⊕ (Int32 × (Nat → Int32) × (Nat → Int32) × (Nat → Int32) × (Nat → Int32) × (Nat → Int32) × (Nat → Int32) × (Nat → Int32) × (Nat → Int32) × Int32 × Int32 × Int32 × (Nat → Int32) × (Nat → Int64)))
  | (v3_20, v2_21, la_ys_22, la_symbolOf_23, la_xs_24, wr_keeping_25, wr_count_26, tb_count_27, tb_bytes_28, la_differs_29) =>
  if p0 ≤ v3_20 then
    j68 la_ys_22 la_symbolOf_23 la_xs_24 wr_keeping_25 wr_count_26 tb_count_27 tb_bytes_28 la_differs_29
  else
    if v2_21 = 0 then
      j68 la_ys_22 la_symbolOf_23 la_xs_24 wr_keeping_25 wr_count_26 tb_count_27 tb_bytes_28 la_differs_29
    else
      bd (f_Top_changeNeighbours_C la_count tb_count_27 tb_bytes_28 la_ways di_count na_lengths_5 la_sequence_2 la_symbolOf_23 la_xs_24 di_widths la_ys_22 di_heights na_codes_6 la_differs_29) fun (r_30, wr_keeping_31, wr_count_32, tb_count_33, tb_bytes_34, la_symbolOf_35, la_xs_36, la_ys_37, la_differs_38) =>
      nl (v3_20 + (1 : Int32)) fun v3_39 =>
      self48 (v3_39, r_30, la_ys_37, la_symbolOf_35, la_xs_36, wr_keeping_31, wr_count_32, tb_count_33, tb_bytes_34, la_differs_38)

def f_Top_order_C (la_count : Int32) (la_ways : (Nat → Int32)) (la_ys : (Nat → Int32)) (la_symbolOf : (Nat → Int32)) (di_count : Int32) (di_heights : (Nat → Int32)) (la_xs : (Nat → Int32)) (di_widths : (Nat → Int32)) (la_sequence : (Nat → Int32)) (na_weights : (Nat → Int32)) (na_joinedTo : (Nat → Int32)) (na_lengths : (Nat → Int32)) (na_codes : (Nat → Int32)) (wr_keeping : Int32) (wr_count : Int32) (tb_count : Int32) (tb_bytes : (Nat → Int32)) (la_differs : (Nat → Int64)) (p0 : Int32) : Option (String ⊕ (Int32 × (Nat → Int32) × (Nat → Int32) × (Nat → Int32) × (Nat → Int32) × (Nat → Int32) × (Nat → Int32) × (Nat → Int32) × (Nat → Int32) × Int32 × Int32 × Int32 × (Nat → Int32) × (Nat → Int64))) :=
  bd (f_Top_isWithin p0 (0 : Int32) (8 : Int32)) fun r_1 =>
  if r_1 = 0 then
    some (.inl "java/lang/IllegalArgumentException")
  else
    bd (f_Teller_prepare_C la_count la_ways la_ys la_symbolOf di_count di_heights la_xs di_widths la_sequence na_weights na_joinedTo na_lengths na_codes) fun (la_sequence_2, na_weights_3, na_joinedTo_4, na_lengths_5, na_codes_6) =>
    gq (3 : Int32) 4 <|
    jn (fun (la_ys_7 : (Nat → Int32)) (la_symbolOf_8 : (Nat → Int32)) (la_xs_9 : (Nat → Int32)) (wr_keeping_10 : Int32) (wr_count_11 : Int32) (tb_count_12 : Int32) (tb_bytes_13 : (Nat → Int32)) (la_differs_14 : (Nat → Int64)) =>
        bd (f_Teller_tellAll_C la_count tb_count_12 tb_bytes_13 la_ways di_count na_lengths_5 la_sequence_2 la_symbolOf_8 la_xs_9 di_widths la_ys_7 di_heights na_codes_6 la_differs_14 (0 : Int32)) fun (r_15, wr_keeping_16, wr_count_17, tb_count_18, tb_bytes_19) =>
        some (.inr (r_15, la_ys_7, la_symbolOf_8, la_xs_9, la_sequence_2, na_weights_3, na_joinedTo_4, na_lengths_5, na_codes_6, wr_keeping_16, wr_count_17, tb_count_18, tb_bytes_19, la_differs_14))) fun j68 =>
    if (la_ways ((3 : Int32)).toNatClampNeg) = (4 : Int32) then
      j68 la_ys la_symbolOf la_xs wr_keeping wr_count tb_count tb_bytes la_differs
    else
      lp (f_Top_order_C_L48 p0 j68 la_count la_ways di_count na_lengths_5 la_sequence_2 di_widths di_heights na_codes_6) FU ((0 : Int32), (1 : Int32), la_ys, la_symbolOf, la_xs, wr_keeping, wr_count, tb_count, tb_bytes, la_differs)


def f_Top_write_C (la_count : Int32) (la_ways : (Nat → Int32)) (la_ys : (Nat → Int32)) (la_symbolOf : (Nat → Int32)) (di_count : Int32) (di_heights : (Nat → Int32)) (la_xs : (Nat → Int32)) (di_widths : (Nat → Int32)) (la_sequence : (Nat → Int32)) (na_weights : (Nat → Int32)) (na_joinedTo : (Nat → Int32)) (na_lengths : (Nat → Int32)) (na_codes : (Nat → Int32)) (tb_count : Int32) (tb_bytes : (Nat → Int32)) (la_differs : (Nat → Int64)) : Option (Int32 × (Nat → Int32) × (Nat → Int32) × (Nat → Int32) × (Nat → Int32) × (Nat → Int32) × Int32 × Int32 × Int32 × (Nat → Int32)) :=
  bd (f_Teller_prepare_C la_count la_ways la_ys la_symbolOf di_count di_heights la_xs di_widths la_sequence na_weights na_joinedTo na_lengths na_codes) fun (la_sequence_1, na_weights_2, na_joinedTo_3, na_lengths_4, na_codes_5) =>
  bd (f_Teller_tellAll_C la_count tb_count tb_bytes la_ways di_count na_lengths_4 la_sequence_1 la_symbolOf la_xs di_widths la_ys di_heights na_codes_5 la_differs (1 : Int32)) fun (r_6, wr_keeping_7, wr_count_8, tb_count_9, tb_bytes_10) =>
  some (tb_count_9, la_sequence_1, na_weights_2, na_joinedTo_3, na_lengths_4, na_codes_5, wr_keeping_7, wr_count_8, tb_count_9, tb_bytes_10)


def f_Top_read_C (h_la : Nat) (h_sp : Nat) (sp_ways : (Nat → Int32)) (cb_count : Int32) (cb_bytes : (Nat → Int32)) (na_lengths : (Nat → Int32)) (di_count : Int32) (na_codes : (Nat → Int32)) (di_widths : (Nat → Int32)) (di_heights : (Nat → Int32)) (sp_symbolOf : (Nat → Int32)) (sp_xs : (Nat → Int32)) (sp_ys : (Nat → Int32)) (sp_differs : (Nat → Int64)) : Option (Int32 × Nat × Nat × Int32 × Int32 × Int32 × Int32 × (Nat → Int32) × Int32 × (Nat → Int32) × (Nat → Int32) × (Nat → Int32) × (Nat → Int32) × (Nat → Int32) × (Nat → Int64)) :=
  bd (f_Reader_readAll_C sp_ways cb_count cb_bytes na_lengths di_count na_codes di_widths di_heights sp_symbolOf sp_xs sp_ys sp_differs) fun (r_1, sp_count_2, rd_place_3, rd_refusal_4, sp_ways_5, na_lengths_6, na_codes_7, sp_symbolOf_8, sp_xs_9, sp_ys_10, sp_differs_11) =>
  jn (fun (s_12 : Int32) =>
      if r_1 = 0 then
        some (sp_count_2, h_sp, h_la, s_12, sp_count_2, rd_place_3, rd_refusal_4, sp_ways_5, (0 : Int32), na_lengths_6, na_codes_7, sp_symbolOf_8, sp_xs_9, sp_ys_10, sp_differs_11)
      else
        some (((-1 : Int32) - r_1), h_la, h_sp, s_12, sp_count_2, rd_place_3, rd_refusal_4, sp_ways_5, (0 : Int32), na_lengths_6, na_codes_7, sp_symbolOf_8, sp_xs_9, sp_ys_10, sp_differs_11)) fun j28 =>
  if r_1 = 0 then
    j28 (-1 : Int32)
  else
    bd (f_Reader_bitsRead rd_place_3) fun r_13 =>
    j28 r_13


def f_Top_changeNeighbours_F_L17 (la_count : Int32) (la_ways : (Nat → Int32)) (di_heights : (Nat → Int32)) (di_widths : (Nat → Int32)) (la_sequence : (Nat → Int32)) (di_count : Int32) (self17 : Int32 × Int32 × Int32 × Int32 × Int32 × Int32 × (Nat → Int32) × (Nat → Int32) × (Nat → Int32) × (Nat → Int32) × (Nat → Int32) × (Nat → Int64) → Option (Int32 × Int32 × Int32 × Int32 × (Nat → Int32) × (Nat → Int32) × (Nat → Int32) × (Nat → Int32) × (Nat → Int32) × (Nat → Int64))) : Int32 × Int32 × Int32 × Int32 × Int32 × Int32 × (Nat → Int32) × (Nat → Int32) × (Nat → Int32) × (Nat → Int32) × (Nat → Int32) × (Nat → Int64) → Option (Int32 × Int32 × Int32 × Int32 × (Nat → Int32) × (Nat → Int32) × (Nat → Int32) × (Nat → Int32) × (Nat → Int32) × (Nat → Int64))
  | (v3_7, v2_8, v1_9, wr_keeping_10, wr_count_11, tb_count_12, tb_bytes_13, na_row_14, la_symbolOf_15, la_xs_16, la_ys_17, la_differs_18) =>
  if la_count ≤ (v3_7 + (1 : Int32)) then
    bz v1_9 <|
    some (v1_9, wr_keeping_10, wr_count_11, tb_count_12, tb_bytes_13, na_row_14, la_symbolOf_15, la_xs_16, la_ys_17, la_differs_18)
  else
    bd (f_Layout_strip la_ways la_ys_17 la_symbolOf_15 di_heights la_xs_16 di_widths v3_7) fun r_19 =>
    bd (f_Layout_strip la_ways la_ys_17 la_symbolOf_15 di_heights la_xs_16 di_widths (v3_7 + (1 : Int32))) fun r_20 =>
    jn (fun (v2_21 : Int32) (v1_22 : Int32) (wr_keeping_23 : Int32) (wr_count_24 : Int32) (tb_count_25 : Int32) (tb_bytes_26 : (Nat → Int32)) (na_row_27 : (Nat → Int32)) (la_symbolOf_28 : (Nat → Int32)) (la_xs_29 : (Nat → Int32)) (la_ys_30 : (Nat → Int32)) (la_differs_31 : (Nat → Int64)) =>
        nl (v3_7 + (1 : Int32)) fun v3_32 =>
        self17 (v3_32, v2_21, v1_22, wr_keeping_23, wr_count_24, tb_count_25, tb_bytes_26, na_row_27, la_symbolOf_28, la_xs_29, la_ys_30, la_differs_31)) fun j95 =>
    if r_19 = r_20 then
      bd (f_Layout_swapWithNext la_symbolOf_15 la_xs_16 la_ys_17 la_differs_18 v3_7) fun (la_symbolOf_33, la_xs_34, la_ys_35, la_differs_36) =>
      bd (f_Teller_tellAll_F la_count tb_count_12 tb_bytes_13 la_ways na_row_14 la_sequence la_symbolOf_33 la_xs_34 di_count di_widths la_ys_35 di_heights la_differs_36 (0 : Int32)) fun (r_37, wr_keeping_38, wr_count_39, tb_count_40, tb_bytes_41, na_row_42) =>
      if v2_8 ≤ r_37 then
        bd (f_Layout_swapWithNext la_symbolOf_33 la_xs_34 la_ys_35 la_differs_36 v3_7) fun (la_symbolOf_43, la_xs_44, la_ys_45, la_differs_46) =>
        j95 v2_8 v1_9 wr_keeping_38 wr_count_39 tb_count_40 tb_bytes_41 na_row_42 la_symbolOf_43 la_xs_44 la_ys_45 la_differs_46
      else
        j95 r_37 (1 : Int32) wr_keeping_38 wr_count_39 tb_count_40 tb_bytes_41 na_row_42 la_symbolOf_33 la_xs_34 la_ys_35 la_differs_36
    else
      j95 v2_8 v1_9 wr_keeping_10 wr_count_11 tb_count_12 tb_bytes_13 na_row_14 la_symbolOf_15 la_xs_16 la_ys_17 la_differs_18

def f_Top_changeNeighbours_F (la_count : Int32) (tb_count : Int32) (tb_bytes : (Nat → Int32)) (la_ways : (Nat → Int32)) (na_row : (Nat → Int32)) (la_sequence : (Nat → Int32)) (la_symbolOf : (Nat → Int32)) (la_xs : (Nat → Int32)) (di_count : Int32) (di_widths : (Nat → Int32)) (la_ys : (Nat → Int32)) (di_heights : (Nat → Int32)) (la_differs : (Nat → Int64)) : Option (Int32 × Int32 × Int32 × Int32 × (Nat → Int32) × (Nat → Int32) × (Nat → Int32) × (Nat → Int32) × (Nat → Int32) × (Nat → Int64)) :=
  bd (f_Teller_tellAll_F la_count tb_count tb_bytes la_ways na_row la_sequence la_symbolOf la_xs di_count di_widths la_ys di_heights la_differs (0 : Int32)) fun (r_1, wr_keeping_2, wr_count_3, tb_count_4, tb_bytes_5, na_row_6) =>
  lp (f_Top_changeNeighbours_F_L17 la_count la_ways di_heights di_widths la_sequence di_count) FU ((0 : Int32), r_1, (0 : Int32), wr_keeping_2, wr_count_3, tb_count_4, tb_bytes_5, na_row_6, la_symbolOf, la_xs, la_ys, la_differs)


def f_Top_order_F_L48 (p0 : Int32) (j68 : (Nat → Int32) → (Nat → Int32) → (Nat → Int32) → Int32 → Int32 → Int32 → (Nat → Int32) → (Nat → Int32) → (Nat → Int64) → Option (String ⊕ (Int32 × (Nat → Int32) × (Nat → Int32) × (Nat → Int32) × (Nat → Int32) × Int32 × Int32 × Int32 × (Nat → Int32) × (Nat → Int32) × (Nat → Int64)))) (la_count : Int32) (la_ways : (Nat → Int32)) (la_sequence_2 : (Nat → Int32)) (di_count : Int32) (di_widths : (Nat → Int32)) (di_heights : (Nat → Int32)) (self48 : Int32 × Int32 × (Nat → Int32) × (Nat → Int32) × (Nat → Int32) × Int32 × Int32 × Int32 × (Nat → Int32) × (Nat → Int32) × (Nat → Int64) → Option (String ⊕ (Int32 × (Nat → Int32) × (Nat → Int32) × (Nat → Int32) × (Nat → Int32) × Int32 × Int32 × Int32 × (Nat → Int32) × (Nat → Int32) × (Nat → Int64)))) : Int32 × Int32 × (Nat → Int32) × (Nat → Int32) × (Nat → Int32) × Int32 × Int32 × Int32 × (Nat → Int32) × (Nat → Int32) × (Nat → Int64) → Option (String ⊕ (Int32 × (Nat → Int32) × (Nat → Int32) × (Nat → Int32) × (Nat → Int32) × Int32 × Int32 × Int32 × (Nat → Int32) × (Nat → Int32) × (Nat → Int64)))
  | (v3_18, v2_19, la_ys_20, la_symbolOf_21, la_xs_22, wr_keeping_23, wr_count_24, tb_count_25, tb_bytes_26, na_row_27, la_differs_28) =>
  if p0 ≤ v3_18 then
    j68 la_ys_20 la_symbolOf_21 la_xs_22 wr_keeping_23 wr_count_24 tb_count_25 tb_bytes_26 na_row_27 la_differs_28
  else
    if v2_19 = 0 then
      j68 la_ys_20 la_symbolOf_21 la_xs_22 wr_keeping_23 wr_count_24 tb_count_25 tb_bytes_26 na_row_27 la_differs_28
    else
      bd (f_Top_changeNeighbours_F la_count tb_count_25 tb_bytes_26 la_ways na_row_27 la_sequence_2 la_symbolOf_21 la_xs_22 di_count di_widths la_ys_20 di_heights la_differs_28) fun (r_29, wr_keeping_30, wr_count_31, tb_count_32, tb_bytes_33, na_row_34, la_symbolOf_35, la_xs_36, la_ys_37, la_differs_38) =>
      nl (v3_18 + (1 : Int32)) fun v3_39 =>
      self48 (v3_39, r_29, la_ys_37, la_symbolOf_35, la_xs_36, wr_keeping_30, wr_count_31, tb_count_32, tb_bytes_33, na_row_34, la_differs_38)

def f_Top_order_F (la_count : Int32) (la_ways : (Nat → Int32)) (la_ys : (Nat → Int32)) (la_symbolOf : (Nat → Int32)) (di_count : Int32) (di_heights : (Nat → Int32)) (la_xs : (Nat → Int32)) (di_widths : (Nat → Int32)) (la_sequence : (Nat → Int32)) (wr_keeping : Int32) (wr_count : Int32) (tb_count : Int32) (tb_bytes : (Nat → Int32)) (na_row : (Nat → Int32)) (la_differs : (Nat → Int64)) (p0 : Int32) : Option (String ⊕ (Int32 × (Nat → Int32) × (Nat → Int32) × (Nat → Int32) × (Nat → Int32) × Int32 × Int32 × Int32 × (Nat → Int32) × (Nat → Int32) × (Nat → Int64))) :=
  bd (f_Top_isWithin p0 (0 : Int32) (8 : Int32)) fun r_1 =>
  if r_1 = 0 then
    some (.inl "java/lang/IllegalArgumentException")
  else
    bd (f_Teller_prepare_F la_count la_ways la_ys la_symbolOf di_heights la_xs di_widths la_sequence) fun la_sequence_2 =>
    gq (3 : Int32) 4 <|
    jn (fun (la_ys_3 : (Nat → Int32)) (la_symbolOf_4 : (Nat → Int32)) (la_xs_5 : (Nat → Int32)) (wr_keeping_6 : Int32) (wr_count_7 : Int32) (tb_count_8 : Int32) (tb_bytes_9 : (Nat → Int32)) (na_row_10 : (Nat → Int32)) (la_differs_11 : (Nat → Int64)) =>
        bd (f_Teller_tellAll_F la_count tb_count_8 tb_bytes_9 la_ways na_row_10 la_sequence_2 la_symbolOf_4 la_xs_5 di_count di_widths la_ys_3 di_heights la_differs_11 (0 : Int32)) fun (r_12, wr_keeping_13, wr_count_14, tb_count_15, tb_bytes_16, na_row_17) =>
        some (.inr (r_12, la_ys_3, la_symbolOf_4, la_xs_5, la_sequence_2, wr_keeping_13, wr_count_14, tb_count_15, tb_bytes_16, na_row_17, la_differs_11))) fun j68 =>
    if (la_ways ((3 : Int32)).toNatClampNeg) = (4 : Int32) then
      j68 la_ys la_symbolOf la_xs wr_keeping wr_count tb_count tb_bytes na_row la_differs
    else
      lp (f_Top_order_F_L48 p0 j68 la_count la_ways la_sequence_2 di_count di_widths di_heights) FU ((0 : Int32), (1 : Int32), la_ys, la_symbolOf, la_xs, wr_keeping, wr_count, tb_count, tb_bytes, na_row, la_differs)


def f_Top_write_F (la_count : Int32) (la_ways : (Nat → Int32)) (la_ys : (Nat → Int32)) (la_symbolOf : (Nat → Int32)) (di_count : Int32) (di_heights : (Nat → Int32)) (la_xs : (Nat → Int32)) (di_widths : (Nat → Int32)) (la_sequence : (Nat → Int32)) (tb_count : Int32) (tb_bytes : (Nat → Int32)) (na_row : (Nat → Int32)) (la_differs : (Nat → Int64)) : Option (Int32 × (Nat → Int32) × Int32 × Int32 × Int32 × (Nat → Int32) × (Nat → Int32)) :=
  bd (f_Teller_prepare_F la_count la_ways la_ys la_symbolOf di_heights la_xs di_widths la_sequence) fun la_sequence_1 =>
  bd (f_Teller_tellAll_F la_count tb_count tb_bytes la_ways na_row la_sequence_1 la_symbolOf la_xs di_count di_widths la_ys di_heights la_differs (1 : Int32)) fun (r_2, wr_keeping_3, wr_count_4, tb_count_5, tb_bytes_6, na_row_7) =>
  some (tb_count_5, la_sequence_1, wr_keeping_3, wr_count_4, tb_count_5, tb_bytes_6, na_row_7)


def f_Top_read_F (h_la : Nat) (h_sp : Nat) (sp_ways : (Nat → Int32)) (cb_count : Int32) (cb_bytes : (Nat → Int32)) (na_row : (Nat → Int32)) (di_count : Int32) (di_widths : (Nat → Int32)) (di_heights : (Nat → Int32)) (sp_symbolOf : (Nat → Int32)) (sp_xs : (Nat → Int32)) (sp_ys : (Nat → Int32)) (sp_differs : (Nat → Int64)) : Option (Int32 × Nat × Nat × Int32 × Int32 × Int32 × Int32 × (Nat → Int32) × Int32 × (Nat → Int32) × (Nat → Int32) × (Nat → Int32) × (Nat → Int32) × (Nat → Int64)) :=
  bd (f_Reader_readAll_F sp_ways cb_count cb_bytes na_row di_count di_widths di_heights sp_symbolOf sp_xs sp_ys sp_differs) fun (r_1, sp_count_2, rd_place_3, rd_refusal_4, sp_ways_5, na_row_6, sp_symbolOf_7, sp_xs_8, sp_ys_9, sp_differs_10) =>
  jn (fun (s_11 : Int32) =>
      if r_1 = 0 then
        some (sp_count_2, h_sp, h_la, s_11, sp_count_2, rd_place_3, rd_refusal_4, sp_ways_5, (0 : Int32), na_row_6, sp_symbolOf_7, sp_xs_8, sp_ys_9, sp_differs_10)
      else
        some (((-1 : Int32) - r_1), h_la, h_sp, s_11, sp_count_2, rd_place_3, rd_refusal_4, sp_ways_5, (0 : Int32), na_row_6, sp_symbolOf_7, sp_xs_8, sp_ys_9, sp_differs_10)) fun j28 =>
  if r_1 = 0 then
    j28 (-1 : Int32)
  else
    bd (f_Reader_bitsRead rd_place_3) fun r_12 =>
    j28 r_12

