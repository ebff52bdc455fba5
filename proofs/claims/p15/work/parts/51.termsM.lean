def f_Mo_thrown (mo_thrown : Int32) : Option (Int32) :=
  some mo_thrown


def f_Mo_within (p0 : Int32) (p1 : Int32) (p2 : Int32) : Option (Int32) :=
  if p1 ≤ p0 then
    if p0 ≤ p2 then
      some p0
    else
      some p2
  else
    some p1


def f_Mo_isIn (p0 : Int32) (p1 : Int32) (p2 : Int32) : Option (Int32) :=
  if p0 < p1 then
    some (0 : Int32)
  else
    if p2 < p0 then
      some (0 : Int32)
    else
      some (1 : Int32)


def f_Mo_symbol (mo_symbols : Int32) (mo_wide : (Nat → Int32)) (mo_high : (Nat → Int32)) (mo_dark : (Nat → Int64)) (p0 : Int32) (p1 : Int32) : Option (Int32 × Int32 × Int32 × (Nat → Int32) × (Nat → Int32) × (Nat → Int64)) :=
  bd (f_Mo_isIn p0 (1 : Int32) (8 : Int32)) fun r_1 =>
  jn (fun (s_2 : Int32) =>
      if s_2 ≤ 0 then
        gq mo_symbols 16 <|
        gq mo_symbols 16 <|
        gq mo_symbols 16 <|
        nl (mo_symbols + (1 : Int32)) fun symbols_3 =>
        some ((symbols_3 - (1 : Int32)), s_2, symbols_3, (upd mo_wide (mo_symbols).toNatClampNeg p0), (upd mo_high (mo_symbols).toNatClampNeg p1), (vp_updL mo_dark (mo_symbols).toNatClampNeg (0 : Int64)))
      else
        some ((0 : Int32), s_2, mo_symbols, mo_wide, mo_high, mo_dark)) fun j39 =>
  jn (fun (_ : Unit) =>
      j39 (1 : Int32)) fun j21 =>
  if r_1 = 0 then
    j21 ()
  else
    bd (f_Mo_isIn p1 (1 : Int32) (8 : Int32)) fun r_4 =>
    if r_4 = 0 then
      j21 ()
    else
      if mo_symbols = (16 : Int32) then
        j39 (2 : Int32)
      else
        j39 (0 : Int32)


def f_Mo_isSample (mo_wide : (Nat → Int32)) (mo_high : (Nat → Int32)) (p0 : Int32) (p1 : Int32) (p2 : Int32) : Option (Int32) :=
  gq p0 16 <|
  bd (f_Mo_isIn p1 (0 : Int32) ((mo_wide (p0).toNatClampNeg) - (1 : Int32))) fun r_1 =>
  if r_1 = 0 then
    some (0 : Int32)
  else
    gq p0 16 <|
    bd (f_Mo_isIn p2 (0 : Int32) ((mo_high (p0).toNatClampNeg) - (1 : Int32))) fun r_2 =>
    if r_2 = 0 then
      some (0 : Int32)
    else
      some (1 : Int32)


def f_Mo_put (mo_symbols : Int32) (mo_dark : (Nat → Int64)) (mo_wide : (Nat → Int32)) (mo_high : (Nat → Int32)) (p0 : Int32) (p1 : Int32) (p2 : Int32) (p3 : Int32) : Option (Int32 × Int32 × (Nat → Int64)) :=
  bd (f_Mo_isIn p0 (0 : Int32) (mo_symbols - (1 : Int32))) fun r_1 =>
  jn (fun (s_2 : Int32) =>
      if s_2 ≤ 0 then
        nl ((1 : Int64) <<< (((((8 : Int32) * p2) + p1)).toInt64 &&& 63)) fun v5_3 =>
        gq p0 16 <|
        jn (fun (s_4 : Int32) =>
            jn (fun (s_5 : Int32) (s_6 : Int64) =>
                gq s_5 16 <|
                if s_4 = p3 then
                  some ((0 : Int32), s_2, (vp_updL mo_dark (s_5).toNatClampNeg s_6))
                else
                  some ((1 : Int32), s_2, (vp_updL mo_dark (s_5).toNatClampNeg s_6))) fun j108 =>
            if p3 = 0 then
              gq p0 16 <|
              j108 p0 ((mo_dark (p0).toNatClampNeg) &&& (v5_3 ^^^ (-1 : Int64)))
            else
              gq p0 16 <|
              j108 p0 ((mo_dark (p0).toNatClampNeg) ||| v5_3)) fun j71 =>
        if (lg_cmp ((mo_dark (p0).toNatClampNeg) &&& v5_3) (0 : Int64)) = 0 then
          j71 (0 : Int32)
        else
          j71 (1 : Int32)
      else
        some ((0 : Int32), s_2, mo_dark)) fun j30 =>
  jn (fun (_ : Unit) =>
      j30 (1 : Int32)) fun j25 =>
  if r_1 = 0 then
    j25 ()
  else
    bd (f_Mo_isSample mo_wide mo_high p0 p1 p2) fun r_7 =>
    if r_7 = 0 then
      j25 ()
    else
      j30 (0 : Int32)


def f_Mo_instance (mo_symbols : Int32) (mo_instances : Int32) (mo_symbolOf : (Nat → Int32)) (mo_xs : (Nat → Int32)) (mo_ys : (Nat → Int32)) (mo_differs : (Nat → Int64)) (p0 : Int32) (p1 : Int32) (p2 : Int32) : Option (Int32 × Int32 × Int32 × (Nat → Int32) × (Nat → Int32) × (Nat → Int32) × (Nat → Int64)) :=
  bd (f_Mo_isIn p0 (0 : Int32) (mo_symbols - (1 : Int32))) fun r_1 =>
  jn (fun (s_2 : Int32) =>
      if s_2 ≤ 0 then
        gq mo_instances 40 <|
        gq mo_instances 40 <|
        gq mo_instances 40 <|
        gq mo_instances 40 <|
        nl (mo_instances + (1 : Int32)) fun instances_3 =>
        some ((instances_3 - (1 : Int32)), s_2, instances_3, (upd mo_symbolOf (mo_instances).toNatClampNeg p0), (upd mo_xs (mo_instances).toNatClampNeg p1), (upd mo_ys (mo_instances).toNatClampNeg p2), (vp_updL mo_differs (mo_instances).toNatClampNeg (0 : Int64)))
      else
        some ((0 : Int32), s_2, mo_instances, mo_symbolOf, mo_xs, mo_ys, mo_differs)) fun j59 =>
  if r_1 = 0 then
    j59 (1 : Int32)
  else
    bd (f_Mo_isIn p1 (-8 : Int32) (31 : Int32)) fun r_4 =>
    jn (fun (_ : Unit) =>
        j59 (2 : Int32)) fun j41 =>
    if r_4 = 0 then
      j41 ()
    else
      bd (f_Mo_isIn p2 (-8 : Int32) (31 : Int32)) fun r_5 =>
      if r_5 = 0 then
        j41 ()
      else
        if mo_instances = (40 : Int32) then
          j59 (3 : Int32)
        else
          j59 (0 : Int32)


def f_Mo_isInstance (mo_instances : Int32) (p0 : Int32) : Option (Int32) :=
  bd (f_Mo_isIn p0 (0 : Int32) (mo_instances - (1 : Int32))) fun r_1 =>
  bz r_1 <|
  some r_1


def f_Mo_refine (mo_instances : Int32) (mo_differs : (Nat → Int64)) (mo_symbolOf : (Nat → Int32)) (mo_wide : (Nat → Int32)) (mo_high : (Nat → Int32)) (p0 : Int32) (p1 : Int32) (p2 : Int32) (p3 : Int32) : Option (Int32 × Int32 × (Nat → Int64)) :=
  bd (f_Mo_isInstance mo_instances p0) fun r_1 =>
  jn (fun (s_2 : Int32) =>
      if s_2 ≤ 0 then
        nl ((1 : Int64) <<< (((((8 : Int32) * p2) + p1)).toInt64 &&& 63)) fun v5_3 =>
        gq p0 40 <|
        jn (fun (s_4 : Int32) =>
            jn (fun (s_5 : Int32) (s_6 : Int64) =>
                gq s_5 40 <|
                if s_4 = p3 then
                  some ((0 : Int32), s_2, (vp_updL mo_differs (s_5).toNatClampNeg s_6))
                else
                  some ((1 : Int32), s_2, (vp_updL mo_differs (s_5).toNatClampNeg s_6))) fun j107 =>
            if p3 = 0 then
              gq p0 40 <|
              j107 p0 ((mo_differs (p0).toNatClampNeg) &&& (v5_3 ^^^ (-1 : Int64)))
            else
              gq p0 40 <|
              j107 p0 ((mo_differs (p0).toNatClampNeg) ||| v5_3)) fun j70 =>
        if (lg_cmp ((mo_differs (p0).toNatClampNeg) &&& v5_3) (0 : Int64)) = 0 then
          j70 (0 : Int32)
        else
          j70 (1 : Int32)
      else
        some ((0 : Int32), s_2, mo_differs)) fun j29 =>
  jn (fun (_ : Unit) =>
      j29 (1 : Int32)) fun j24 =>
  if r_1 = 0 then
    j24 ()
  else
    gq p0 40 <|
    bd (f_Mo_isSample mo_wide mo_high (mo_symbolOf (p0).toNatClampNeg) p1 p2) fun r_7 =>
    if r_7 = 0 then
      j24 ()
    else
      j29 (0 : Int32)


def f_Mo_way (mo_ways : (Nat → Int32)) (p0 : Int32) (p1 : Int32) : Option (Int32 × Int32 × (Nat → Int32)) :=
  jn (fun (s_1 : Int32) =>
      bd (f_Mo_isIn p0 (0 : Int32) (3 : Int32)) fun r_2 =>
      jn (fun (s_3 : Int32) =>
          if s_3 ≤ 0 then
            gq p0 4 <|
            nl (mo_ways (p0).toNatClampNeg) fun v4_4 =>
            gq p0 4 <|
            some (v4_4, s_3, (upd mo_ways (p0).toNatClampNeg p1))
          else
            some ((0 : Int32), s_3, mo_ways)) fun j44 =>
      jn (fun (_ : Unit) =>
          j44 (1 : Int32)) fun j43 =>
      if r_2 = 0 then
        j43 ()
      else
        bd (f_Mo_isIn p1 (0 : Int32) s_1) fun r_5 =>
        if r_5 = 0 then
          j43 ()
        else
          j44 (0 : Int32)) fun j19 =>
  if p0 = (1 : Int32) then
    j19 (1 : Int32)
  else
    if p0 = (3 : Int32) then
      j19 (4 : Int32)
    else
      j19 (3 : Int32)


def f_Mo_columnOf (mo_xs : (Nat → Int32)) (mo_ways : (Nat → Int32)) (mo_wide : (Nat → Int32)) (mo_symbolOf : (Nat → Int32)) (p0 : Int32) : Option (Int32) :=
  gq p0 40 <|
  gq (0 : Int32) 4 <|
  if (mo_ways ((0 : Int32)).toNatClampNeg) < (2 : Int32) then
    some ((mo_xs (p0).toNatClampNeg) + (0 : Int32))
  else
    gq p0 40 <|
    gq (mo_symbolOf (p0).toNatClampNeg) 16 <|
    some ((mo_xs (p0).toNatClampNeg) + ((mo_wide ((mo_symbolOf (p0).toNatClampNeg)).toNatClampNeg) - (1 : Int32)))


def f_Mo_rowOf (mo_ys : (Nat → Int32)) (mo_ways : (Nat → Int32)) (mo_high : (Nat → Int32)) (mo_symbolOf : (Nat → Int32)) (p0 : Int32) : Option (Int32) :=
  gq p0 40 <|
  gq (0 : Int32) 4 <|
  if ((mo_ways ((0 : Int32)).toNatClampNeg) - (mo_ways ((0 : Int32)).toNatClampNeg) / (2 : Int32) * (2 : Int32)) = (1 : Int32) then
    gq p0 40 <|
    gq (mo_symbolOf (p0).toNatClampNeg) 16 <|
    some ((mo_ys (p0).toNatClampNeg) + ((mo_high ((mo_symbolOf (p0).toNatClampNeg)).toNatClampNeg) - (1 : Int32)))
  else
    some ((mo_ys (p0).toNatClampNeg) + (0 : Int32))


def f_Mo_sOf (mo_ways : (Nat → Int32)) (mo_xs : (Nat → Int32)) (mo_wide : (Nat → Int32)) (mo_symbolOf : (Nat → Int32)) (mo_ys : (Nat → Int32)) (mo_high : (Nat → Int32)) (p0 : Int32) : Option (Int32) :=
  gq (1 : Int32) 4 <|
  if (mo_ways ((1 : Int32)).toNatClampNeg) = (1 : Int32) then
    bd (f_Mo_rowOf mo_ys mo_ways mo_high mo_symbolOf p0) fun r_2 =>
    some r_2
  else
    bd (f_Mo_columnOf mo_xs mo_ways mo_wide mo_symbolOf p0) fun r_1 =>
    some r_1


def f_Mo_tOf (mo_ways : (Nat → Int32)) (mo_ys : (Nat → Int32)) (mo_high : (Nat → Int32)) (mo_symbolOf : (Nat → Int32)) (mo_xs : (Nat → Int32)) (mo_wide : (Nat → Int32)) (p0 : Int32) : Option (Int32) :=
  gq (1 : Int32) 4 <|
  if (mo_ways ((1 : Int32)).toNatClampNeg) = (1 : Int32) then
    bd (f_Mo_columnOf mo_xs mo_ways mo_wide mo_symbolOf p0) fun r_2 =>
    some r_2
  else
    bd (f_Mo_rowOf mo_ys mo_ways mo_high mo_symbolOf p0) fun r_1 =>
    some r_1


def f_Mo_stripOf (mo_ways : (Nat → Int32)) (mo_ys : (Nat → Int32)) (mo_high : (Nat → Int32)) (mo_symbolOf : (Nat → Int32)) (mo_xs : (Nat → Int32)) (mo_wide : (Nat → Int32)) (p0 : Int32) : Option (Int32) :=
  bd (f_Mo_tOf mo_ways mo_ys mo_high mo_symbolOf mo_xs mo_wide p0) fun r_1 =>
  gq (2 : Int32) 4 <|
  some (r_1 >>> ((mo_ways ((2 : Int32)).toNatClampNeg) &&& 31))


def f_Mo_sort_L12 (mo_ways : (Nat → Int32)) (mo_ys : (Nat → Int32)) (mo_high : (Nat → Int32)) (mo_symbolOf : (Nat → Int32)) (mo_xs : (Nat → Int32)) (mo_wide : (Nat → Int32)) (v1_1 : Int32) (k56 : Int32 → (Nat → Int32) → Option ((Nat → Int32))) (self12 : Int32 × (Nat → Int32) → Option ((Nat → Int32))) : Int32 × (Nat → Int32) → Option ((Nat → Int32))
  | (v2_3, mo_ordered_4) =>
  if v2_3 ≤ 0 then
    k56 v2_3 mo_ordered_4
  else
    gq (v2_3 - (1 : Int32)) 40 <|
    bd (f_Mo_stripOf mo_ways mo_ys mo_high mo_symbolOf mo_xs mo_wide (mo_ordered_4 ((v2_3 - (1 : Int32))).toNatClampNeg)) fun r_7 =>
    bd (f_Mo_stripOf mo_ways mo_ys mo_high mo_symbolOf mo_xs mo_wide v1_1) fun r_8 =>
    if r_7 ≤ r_8 then
      k56 v2_3 mo_ordered_4
    else
      gq (v2_3 - (1 : Int32)) 40 <|
      nl (mo_ordered_4 ((v2_3 - (1 : Int32))).toNatClampNeg) fun w_9 =>
      gq v2_3 40 <|
      nl (v2_3 + (-1 : Int32)) fun v2_10 =>
      self12 (v2_10, (upd mo_ordered_4 (v2_3).toNatClampNeg w_9))

def f_Mo_sort_L2 (mo_instances : Int32) (mo_ways : (Nat → Int32)) (mo_ys : (Nat → Int32)) (mo_high : (Nat → Int32)) (mo_symbolOf : (Nat → Int32)) (mo_xs : (Nat → Int32)) (mo_wide : (Nat → Int32)) (self2 : Int32 × (Nat → Int32) → Option ((Nat → Int32))) : Int32 × (Nat → Int32) → Option ((Nat → Int32))
  | (v1_1, mo_ordered_2) =>
  if mo_instances ≤ v1_1 then
    some mo_ordered_2
  else
    lp (f_Mo_sort_L12 mo_ways mo_ys mo_high mo_symbolOf mo_xs mo_wide v1_1
      (fun (v2_5 : Int32) (mo_ordered_6 : (Nat → Int32)) =>
        gq v2_5 40 <|
        nl (v1_1 + (1 : Int32)) fun v1_11 =>
        self2 (v1_11, (upd mo_ordered_6 (v2_5).toNatClampNeg v1_1)))) FU (v1_1, mo_ordered_2)

def f_Mo_sort (mo_instances : Int32) (mo_ordered : (Nat → Int32)) (mo_ways : (Nat → Int32)) (mo_ys : (Nat → Int32)) (mo_high : (Nat → Int32)) (mo_symbolOf : (Nat → Int32)) (mo_xs : (Nat → Int32)) (mo_wide : (Nat → Int32)) : Option ((Nat → Int32)) :=
  lp (f_Mo_sort_L2 mo_instances mo_ways mo_ys mo_high mo_symbolOf mo_xs mo_wide) FU ((0 : Int32), mo_ordered)


def f_Mo_lay_L22 (v2_1 : Int32) (mo_wide : (Nat → Int32)) (p0 : Int32) (mo_xs : (Nat → Int32)) (mo_ys : (Nat → Int32)) (v3_2 : Int32) (mo_width : Int32) (mo_height : Int32) (mo_ways : (Nat → Int32)) (mo_dark : (Nat → Int64)) (mo_differs : (Nat → Int64)) (k252 : (Nat → Int32) → Option ((Nat → Int32))) (self22 : Int32 × (Nat → Int32) → Option ((Nat → Int32))) : Int32 × (Nat → Int32) → Option ((Nat → Int32))
  | (v4_4, mo_page_5) =>
  gq v2_1 16 <|
  if (mo_wide (v2_1).toNatClampNeg) ≤ v4_4 then
    k252 mo_page_5
  else
    gq p0 40 <|
    nl ((mo_xs (p0).toNatClampNeg) + v4_4) fun v5_7 =>
    gq p0 40 <|
    nl ((mo_ys (p0).toNatClampNeg) + v3_2) fun v6_8 =>
    bd (f_Mo_isIn v5_7 (0 : Int32) (mo_width - (1 : Int32))) fun r_9 =>
    jn (fun (mo_page_10 : (Nat → Int32)) =>
        nl (v4_4 + (1 : Int32)) fun v4_11 =>
        self22 (v4_11, mo_page_10)) fun j246 =>
    if r_9 = 0 then
      j246 mo_page_5
    else
      bd (f_Mo_isIn v6_8 (0 : Int32) (mo_height - (1 : Int32))) fun r_12 =>
      if r_12 = 0 then
        j246 mo_page_5
      else
        gq v2_1 16 <|
        gq p0 40 <|
        jn (fun (s_13 : Int32) =>
            gq (((24 : Int32) * v6_8) + v5_7) 576 <|
            nl (mo_page_5 ((((24 : Int32) * v6_8) + v5_7)).toNatClampNeg) fun v8_14 =>
            gq (3 : Int32) 4 <|
            nl (mo_ways ((3 : Int32)).toNatClampNeg) fun v9_15 =>
            jn (fun (s_16 : Int32) (s_17 : Int32) =>
                gq s_16 576 <|
                j246 (upd mo_page_5 (s_16).toNatClampNeg (vp_nar .boolean s_17))) fun j245 =>
            if v9_15 = 0 then
              jn (fun (s_19 : Int32) =>
                  j245 s_19 (1 : Int32)) fun j169 =>
              if v8_14 = 0 then
                if s_13 = 0 then
                  j245 (((24 : Int32) * v6_8) + v5_7) (0 : Int32)
                else
                  j169 (((24 : Int32) * v6_8) + v5_7)
              else
                j169 (((24 : Int32) * v6_8) + v5_7)
            else
              if v9_15 = (1 : Int32) then
                jn (fun (s_18 : Int32) =>
                    j245 s_18 (0 : Int32)) fun j197 =>
                if v8_14 = 0 then
                  j197 (((24 : Int32) * v6_8) + v5_7)
                else
                  if s_13 = 0 then
                    j197 (((24 : Int32) * v6_8) + v5_7)
                  else
                    j245 (((24 : Int32) * v6_8) + v5_7) (1 : Int32)
              else
                if v9_15 = (2 : Int32) then
                  if v8_14 = s_13 then
                    j245 (((24 : Int32) * v6_8) + v5_7) (0 : Int32)
                  else
                    j245 (((24 : Int32) * v6_8) + v5_7) (1 : Int32)
                else
                  if v9_15 = (3 : Int32) then
                    if v8_14 = s_13 then
                      j245 (((24 : Int32) * v6_8) + v5_7) (1 : Int32)
                    else
                      j245 (((24 : Int32) * v6_8) + v5_7) (0 : Int32)
                  else
                    j245 (((24 : Int32) * v6_8) + v5_7) s_13) fun j117 =>
        if (lg_cmp ((((mo_dark (v2_1).toNatClampNeg) ^^^ (mo_differs (p0).toNatClampNeg)) >>> (((((8 : Int32) * v3_2) + v4_4)).toInt64 &&& 63)) &&& (1 : Int64)) (1 : Int64)) = 0 then
          j117 (1 : Int32)
        else
          j117 (0 : Int32)

def f_Mo_lay_L9 (v2_1 : Int32) (mo_high : (Nat → Int32)) (mo_wide : (Nat → Int32)) (p0 : Int32) (mo_xs : (Nat → Int32)) (mo_ys : (Nat → Int32)) (mo_width : Int32) (mo_height : Int32) (mo_ways : (Nat → Int32)) (mo_dark : (Nat → Int64)) (mo_differs : (Nat → Int64)) (self9 : Int32 × (Nat → Int32) → Option ((Nat → Int32))) : Int32 × (Nat → Int32) → Option ((Nat → Int32))
  | (v3_2, mo_page_3) =>
  gq v2_1 16 <|
  if (mo_high (v2_1).toNatClampNeg) ≤ v3_2 then
    some mo_page_3
  else
    lp (f_Mo_lay_L22 v2_1 mo_wide p0 mo_xs mo_ys v3_2 mo_width mo_height mo_ways mo_dark mo_differs
      (fun (mo_page_6 : (Nat → Int32)) =>
        nl (v3_2 + (1 : Int32)) fun v3_20 =>
        self9 (v3_20, mo_page_6))) FU ((0 : Int32), mo_page_3)

def f_Mo_lay (mo_width : Int32) (mo_height : Int32) (mo_symbolOf : (Nat → Int32)) (mo_high : (Nat → Int32)) (mo_wide : (Nat → Int32)) (mo_xs : (Nat → Int32)) (mo_ys : (Nat → Int32)) (mo_dark : (Nat → Int64)) (mo_differs : (Nat → Int64)) (mo_page : (Nat → Int32)) (mo_ways : (Nat → Int32)) (p0 : Int32) : Option ((Nat → Int32)) :=
  gq p0 40 <|
  nl (mo_symbolOf (p0).toNatClampNeg) fun v2_1 =>
  lp (f_Mo_lay_L9 v2_1 mo_high mo_wide p0 mo_xs mo_ys mo_width mo_height mo_ways mo_dark mo_differs) FU ((0 : Int32), mo_page)


def f_Mo_compose_L7 (k27 : (Nat → Int32) → Option (Int32 × Int32 × (Nat → Int32) × (Nat → Int32))) (self7 : Int32 × (Nat → Int32) → Option (Int32 × Int32 × (Nat → Int32) × (Nat → Int32))) : Int32 × (Nat → Int32) → Option (Int32 × Int32 × (Nat → Int32) × (Nat → Int32))
  | (v1_1, mo_page_2) =>
  if (576 : Int32) ≤ v1_1 then
    k27 mo_page_2
  else
    gq v1_1 576 <|
    nl (v1_1 + (1 : Int32)) fun v1_4 =>
    self7 (v1_4, (upd mo_page_2 (v1_1).toNatClampNeg (vp_nar .boolean (0 : Int32))))

def f_Mo_compose_L33 (mo_instances : Int32) (mo_width : Int32) (mo_height : Int32) (mo_symbolOf : (Nat → Int32)) (mo_high : (Nat → Int32)) (mo_wide : (Nat → Int32)) (mo_xs : (Nat → Int32)) (mo_ys : (Nat → Int32)) (mo_dark : (Nat → Int64)) (mo_differs : (Nat → Int64)) (mo_ways : (Nat → Int32)) (mo_ordered_5 : (Nat → Int32)) (k57 : (Nat → Int32) → Option (Int32 × Int32 × (Nat → Int32) × (Nat → Int32))) (self33 : Int32 × (Nat → Int32) → Option (Int32 × Int32 × (Nat → Int32) × (Nat → Int32))) : Int32 × (Nat → Int32) → Option (Int32 × Int32 × (Nat → Int32) × (Nat → Int32))
  | (v1_6, mo_page_7) =>
  if mo_instances ≤ v1_6 then
    k57 mo_page_7
  else
    gq v1_6 40 <|
    bd (f_Mo_lay mo_width mo_height mo_symbolOf mo_high mo_wide mo_xs mo_ys mo_dark mo_differs mo_page_7 mo_ways (mo_ordered_5 (v1_6).toNatClampNeg)) fun mo_page_9 =>
    nl (v1_6 + (1 : Int32)) fun v1_10 =>
    self33 (v1_10, mo_page_9)

def f_Mo_compose_L61 (mo_page_8 : (Nat → Int32)) (mo_ordered_5 : (Nat → Int32)) (self61 : Int32 × Int32 → Option (Int32 × Int32 × (Nat → Int32) × (Nat → Int32))) : Int32 × Int32 → Option (Int32 × Int32 × (Nat → Int32) × (Nat → Int32))
  | (v2_11, v1_12) =>
  if (576 : Int32) ≤ v2_11 then
    some (v1_12, (0 : Int32), mo_page_8, mo_ordered_5)
  else
    gq v2_11 576 <|
    jn (fun (s_13 : Int32) =>
        nl (v2_11 + (1 : Int32)) fun v2_14 =>
        self61 (v2_14, s_13)) fun j84 =>
    if (mo_page_8 (v2_11).toNatClampNeg) = 0 then
      j84 v1_12
    else
      j84 (v1_12 + (1 : Int32))

def f_Mo_compose (mo_width : Int32) (mo_height : Int32) (mo_instances : Int32) (mo_page : (Nat → Int32)) (mo_ordered : (Nat → Int32)) (mo_ways : (Nat → Int32)) (mo_ys : (Nat → Int32)) (mo_high : (Nat → Int32)) (mo_symbolOf : (Nat → Int32)) (mo_xs : (Nat → Int32)) (mo_wide : (Nat → Int32)) (mo_dark : (Nat → Int64)) (mo_differs : (Nat → Int64)) : Option (Int32 × Int32 × (Nat → Int32) × (Nat → Int32)) :=
  lp (f_Mo_compose_L7
    (fun (mo_page_3 : (Nat → Int32)) =>
      bd (f_Mo_sort mo_instances mo_ordered mo_ways mo_ys mo_high mo_symbolOf mo_xs mo_wide) fun mo_ordered_5 =>
      lp (f_Mo_compose_L33 mo_instances mo_width mo_height mo_symbolOf mo_high mo_wide mo_xs mo_ys mo_dark mo_differs mo_ways mo_ordered_5
        (fun (mo_page_8 : (Nat → Int32)) =>
          lp (f_Mo_compose_L61 mo_page_8 mo_ordered_5) FU ((0 : Int32), (0 : Int32)))) FU ((0 : Int32), mo_page_3))) FU ((0 : Int32), mo_page)


def f_Mo_at (mo_width : Int32) (mo_height : Int32) (mo_page : (Nat → Int32)) (p0 : Int32) (p1 : Int32) : Option (Int32 × Int32) :=
  bd (f_Mo_isIn p0 (0 : Int32) (mo_width - (1 : Int32))) fun r_1 =>
  jn (fun (s_2 : Int32) =>
      if s_2 = 0 then
        gq (((24 : Int32) * p1) + p0) 576 <|
        if (mo_page ((((24 : Int32) * p1) + p0)).toNatClampNeg) = 0 then
          some ((0 : Int32), s_2)
        else
          some ((1 : Int32), s_2)
      else
        some ((0 : Int32), s_2)) fun j34 =>
  jn (fun (_ : Unit) =>
      j34 (1 : Int32)) fun j33 =>
  if r_1 = 0 then
    j33 ()
  else
    bd (f_Mo_isIn p1 (0 : Int32) (mo_height - (1 : Int32))) fun r_3 =>
    if r_3 = 0 then
      j33 ()
    else
      j34 (0 : Int32)


def f_Mo_leastNode_L4 (p0 : Int32) (mo_used : (Nat → Int32)) (mo_weight : (Nat → Int32)) (self4 : Int32 × Int32 → Option (Int32)) : Int32 × Int32 → Option (Int32)
  | (v3_1, v2_2) =>
  if p0 ≤ v3_1 then
    some v2_2
  else
    gq v3_1 32 <|
    jn (fun (s_3 : Int32) =>
        nl (v3_1 + (1 : Int32)) fun v3_4 =>
        self4 (v3_4, s_3)) fun j52 =>
    jn (fun (_ : Unit) =>
        j52 v2_2) fun j51 =>
    if (mo_used (v3_1).toNatClampNeg) = 0 then
      gq v3_1 32 <|
      if (mo_weight (v3_1).toNatClampNeg) ≤ 0 then
        j51 ()
      else
        jn (fun (_ : Unit) =>
            j52 v3_1) fun j47 =>
        if v2_2 = (-1 : Int32) then
          j47 ()
        else
          gq v3_1 32 <|
          gq v2_2 32 <|
          if (mo_weight (v2_2).toNatClampNeg) ≤ (mo_weight (v3_1).toNatClampNeg) then
            j51 ()
          else
            j47 ()
    else
      j51 ()

def f_Mo_leastNode (mo_used : (Nat → Int32)) (mo_weight : (Nat → Int32)) (p0 : Int32) : Option (Int32) :=
  lp (f_Mo_leastNode_L4 p0 mo_used mo_weight) FU ((0 : Int32), (-1 : Int32))


def f_Mo_findLengths_L4 (k37 : (Nat → Int32) → (Nat → Int32) → (Nat → Int32) → Option ((Nat → Int32) × (Nat → Int32) × (Nat → Int32) × (Nat → Int32))) (self4 : Int32 × (Nat → Int32) × (Nat → Int32) × (Nat → Int32) → Option ((Nat → Int32) × (Nat → Int32) × (Nat → Int32) × (Nat → Int32))) : Int32 × (Nat → Int32) × (Nat → Int32) × (Nat → Int32) → Option ((Nat → Int32) × (Nat → Int32) × (Nat → Int32) × (Nat → Int32))
  | (v2_1, mo_weight_2, mo_used_3, mo_over_4) =>
  if (32 : Int32) ≤ v2_1 then
    k37 mo_weight_2 mo_used_3 mo_over_4
  else
    gq v2_1 32 <|
    gq v2_1 32 <|
    gq v2_1 32 <|
    nl (v2_1 + (1 : Int32)) fun v2_8 =>
    self4 (v2_8, (upd mo_weight_2 (v2_1).toNatClampNeg (0 : Int32)), (upd mo_used_3 (v2_1).toNatClampNeg (vp_nar .boolean (0 : Int32))), (upd mo_over_4 (v2_1).toNatClampNeg (-1 : Int32)))

def f_Mo_findLengths_L39 (mo_instances : Int32) (mo_symbolOf : (Nat → Int32)) (k68 : (Nat → Int32) → Option ((Nat → Int32) × (Nat → Int32) × (Nat → Int32) × (Nat → Int32))) (self39 : Int32 × (Nat → Int32) → Option ((Nat → Int32) × (Nat → Int32) × (Nat → Int32) × (Nat → Int32))) : Int32 × (Nat → Int32) → Option ((Nat → Int32) × (Nat → Int32) × (Nat → Int32) × (Nat → Int32))
  | (v2_9, mo_weight_10) =>
  if mo_instances ≤ v2_9 then
    k68 mo_weight_10
  else
    gq v2_9 40 <|
    gq (mo_symbolOf (v2_9).toNatClampNeg) 32 <|
    nl ((mo_weight_10 ((mo_symbolOf (v2_9).toNatClampNeg)).toNatClampNeg) + (1 : Int32)) fun w_12 =>
    gq (mo_symbolOf (v2_9).toNatClampNeg) 32 <|
    nl (v2_9 + (1 : Int32)) fun v2_13 =>
    self39 (v2_13, (upd mo_weight_10 ((mo_symbolOf (v2_9).toNatClampNeg)).toNatClampNeg w_12))

def f_Mo_findLengths_L70 (mo_symbols : Int32) (mo_weight_11 : (Nat → Int32)) (k101 : Int32 → Option ((Nat → Int32) × (Nat → Int32) × (Nat → Int32) × (Nat → Int32))) (self70 : Int32 × Int32 → Option ((Nat → Int32) × (Nat → Int32) × (Nat → Int32) × (Nat → Int32))) : Int32 × Int32 → Option ((Nat → Int32) × (Nat → Int32) × (Nat → Int32) × (Nat → Int32))
  | (v2_14, v1_15) =>
  if mo_symbols ≤ v2_14 then
    k101 v1_15
  else
    gq v2_14 32 <|
    jn (fun (s_17 : Int32) =>
        nl (v2_14 + (1 : Int32)) fun v2_18 =>
        self70 (v2_18, s_17)) fun j94 =>
    if (mo_weight_11 (v2_14).toNatClampNeg) ≤ 0 then
      j94 v1_15
    else
      j94 (v1_15 + (1 : Int32))

def f_Mo_findLengths_L106 (k187 : (Nat → Int32) → (Nat → Int32) → (Nat → Int32) → Option ((Nat → Int32) × (Nat → Int32) × (Nat → Int32) × (Nat → Int32))) (self106 : Int32 × Int32 × (Nat → Int32) × (Nat → Int32) × (Nat → Int32) → Option ((Nat → Int32) × (Nat → Int32) × (Nat → Int32) × (Nat → Int32))) : Int32 × Int32 × (Nat → Int32) × (Nat → Int32) × (Nat → Int32) → Option ((Nat → Int32) × (Nat → Int32) × (Nat → Int32) × (Nat → Int32))
  | (v3_19, v2_20, mo_weight_21, mo_used_22, mo_over_23) =>
  if v3_19 ≤ (1 : Int32) then
    k187 mo_weight_21 mo_used_22 mo_over_23
  else
    bd (f_Mo_leastNode mo_used_22 mo_weight_21 v2_20) fun r_27 =>
    gq r_27 32 <|
    bd (f_Mo_leastNode (upd mo_used_22 (r_27).toNatClampNeg (vp_nar .boolean (1 : Int32))) mo_weight_21 v2_20) fun r_28 =>
    gq r_28 32 <|
    gq r_27 32 <|
    gq r_28 32 <|
    nl ((mo_weight_21 (r_27).toNatClampNeg) + (mo_weight_21 (r_28).toNatClampNeg)) fun w_29 =>
    gq v2_20 32 <|
    gq r_27 32 <|
    gq r_28 32 <|
    nl (v2_20 + (1 : Int32)) fun v2_30 =>
    nl (v3_19 + (-1 : Int32)) fun v3_31 =>
    self106 (v3_31, v2_30, (upd mo_weight_21 (v2_20).toNatClampNeg w_29), (upd (upd mo_used_22 (r_27).toNatClampNeg (vp_nar .boolean (1 : Int32))) (r_28).toNatClampNeg (vp_nar .boolean (1 : Int32))), (upd (upd mo_over_23 (r_27).toNatClampNeg v2_20) (r_28).toNatClampNeg v2_20))

def f_Mo_findLengths_L206 (mo_over_26 : (Nat → Int32)) (k227 : Int32 → Option ((Nat → Int32) × (Nat → Int32) × (Nat → Int32) × (Nat → Int32))) (self206 : Int32 × Int32 → Option ((Nat → Int32) × (Nat → Int32) × (Nat → Int32) × (Nat → Int32))) : Int32 × Int32 → Option ((Nat → Int32) × (Nat → Int32) × (Nat → Int32) × (Nat → Int32))
  | (v5_35, v4_36) =>
  if v5_35 = (-1 : Int32) then
    k227 v4_36
  else
    nl (v4_36 + (1 : Int32)) fun v4_38 =>
    gq v5_35 32 <|
    nl (mo_over_26 (v5_35).toNatClampNeg) fun v5_39 =>
    self206 (v5_39, v4_38)

def f_Mo_findLengths_L189 (mo_weight_24 : (Nat → Int32)) (mo_used_25 : (Nat → Int32)) (mo_over_26 : (Nat → Int32)) (mo_symbols : Int32) (v1_16 : Int32) (self189 : Int32 × (Nat → Int32) → Option ((Nat → Int32) × (Nat → Int32) × (Nat → Int32) × (Nat → Int32))) : Int32 × (Nat → Int32) → Option ((Nat → Int32) × (Nat → Int32) × (Nat → Int32) × (Nat → Int32))
  | (v3_32, mo_lengths_33) =>
  if (16 : Int32) ≤ v3_32 then
    some (mo_weight_24, mo_used_25, mo_over_26, mo_lengths_33)
  else
    gq v3_32 32 <|
    nl (mo_over_26 (v3_32).toNatClampNeg) fun v5_34 =>
    lp (f_Mo_findLengths_L206 mo_over_26
      (fun (v4_37 : Int32) =>
        jn (fun (s_40 : Int32) (s_41 : Int32) =>
            gq s_40 16 <|
            nl (v3_32 + (1 : Int32)) fun v3_42 =>
            self189 (v3_42, (upd mo_lengths_33 (s_40).toNatClampNeg s_41))) fun j260 =>
        jn (fun (s_43 : Int32) =>
            j260 s_43 v4_37) fun j258 =>
        if mo_symbols ≤ v3_32 then
          j258 v3_32
        else
          gq v3_32 32 <|
          if (mo_weight_24 (v3_32).toNatClampNeg) ≤ 0 then
            j258 v3_32
          else
            if v1_16 = (1 : Int32) then
              j260 v3_32 (1 : Int32)
            else
              j258 v3_32)) FU (v5_34, (0 : Int32))

def f_Mo_findLengths (mo_symbols : Int32) (mo_instances : Int32) (mo_weight : (Nat → Int32)) (mo_used : (Nat → Int32)) (mo_over : (Nat → Int32)) (mo_symbolOf : (Nat → Int32)) (mo_lengths : (Nat → Int32)) : Option ((Nat → Int32) × (Nat → Int32) × (Nat → Int32) × (Nat → Int32)) :=
  lp (f_Mo_findLengths_L4
    (fun (mo_weight_5 : (Nat → Int32)) (mo_used_6 : (Nat → Int32)) (mo_over_7 : (Nat → Int32)) =>
      lp (f_Mo_findLengths_L39 mo_instances mo_symbolOf
        (fun (mo_weight_11 : (Nat → Int32)) =>
          lp (f_Mo_findLengths_L70 mo_symbols mo_weight_11
            (fun (v1_16 : Int32) =>
              lp (f_Mo_findLengths_L106
                (fun (mo_weight_24 : (Nat → Int32)) (mo_used_25 : (Nat → Int32)) (mo_over_26 : (Nat → Int32)) =>
                  lp (f_Mo_findLengths_L189 mo_weight_24 mo_used_25 mo_over_26 mo_symbols v1_16) FU ((0 : Int32), mo_lengths))) FU (v1_16, (16 : Int32), mo_weight_11, mo_used_6, mo_over_7))) FU ((0 : Int32), (0 : Int32)))) FU ((0 : Int32), mo_weight_5))) FU ((0 : Int32), mo_weight, mo_used, mo_over)


def f_Mo_findCodes_L55 (v4_1 : Int32) (v3_7 : Int32) (k76 : Int32 → Option ((Nat → Int32))) (self55 : Int32 × Int32 → Option ((Nat → Int32))) : Int32 × Int32 → Option ((Nat → Int32))
  | (v6_21, v1_22) =>
  if v4_1 ≤ v6_21 then
    k76 v1_22
  else
    if v3_7 = 0 then
      nl ((2 : Int32) * v1_22) fun v1_24 =>
      nl (v6_21 + (1 : Int32)) fun v6_25 =>
      self55 (v6_25, v1_24)
    else
      k76 v1_22

def f_Mo_findCodes_L19 (mo_symbols : Int32) (mo_lengths : (Nat → Int32)) (v4_1 : Int32) (k95 : Int32 → Int32 → Int32 → (Nat → Int32) → Option ((Nat → Int32))) (self19 : Int32 × Int32 × Int32 × Int32 × (Nat → Int32) → Option ((Nat → Int32))) : Int32 × Int32 × Int32 × Int32 × (Nat → Int32) → Option ((Nat → Int32))
  | (v5_6, v3_7, v2_8, v1_9, mo_codes_10) =>
  if mo_symbols ≤ v5_6 then
    k95 v3_7 v2_8 v1_9 mo_codes_10
  else
    gq v5_6 16 <|
    jn (fun (v3_15 : Int32) (v2_16 : Int32) (v1_17 : Int32) (mo_codes_18 : (Nat → Int32)) =>
        nl (v5_6 + (1 : Int32)) fun v5_19 =>
        self19 (v5_19, v3_15, v2_16, v1_17, mo_codes_18)) fun j89 =>
    if (mo_lengths (v5_6).toNatClampNeg) = v4_1 then
      jn (fun (s_20 : Int32) =>
          lp (f_Mo_findCodes_L55 v4_1 v3_7
            (fun (v1_23 : Int32) =>
              gq v5_6 16 <|
              j89 (0 : Int32) v4_1 v1_23 (upd mo_codes_10 (v5_6).toNatClampNeg v1_23))) FU (v2_8, s_20)) fun j51 =>
      if v3_7 = 0 then
        j51 (v1_9 + (1 : Int32))
      else
        j51 (0 : Int32)
    else
      j89 v3_7 v2_8 v1_9 mo_codes_10

def f_Mo_findCodes_L9 (mo_symbols : Int32) (mo_lengths : (Nat → Int32)) (self9 : Int32 × Int32 × Int32 × Int32 × (Nat → Int32) → Option ((Nat → Int32))) : Int32 × Int32 × Int32 × Int32 × (Nat → Int32) → Option ((Nat → Int32))
  | (v4_1, v3_2, v2_3, v1_4, mo_codes_5) =>
  if (16 : Int32) ≤ v4_1 then
    some mo_codes_5
  else
    lp (f_Mo_findCodes_L19 mo_symbols mo_lengths v4_1
      (fun (v3_11 : Int32) (v2_12 : Int32) (v1_13 : Int32) (mo_codes_14 : (Nat → Int32)) =>
        nl (v4_1 + (1 : Int32)) fun v4_26 =>
        self9 (v4_26, v3_11, v2_12, v1_13, mo_codes_14))) FU ((0 : Int32), v3_2, v2_3, v1_4, mo_codes_5)

def f_Mo_findCodes (mo_symbols : Int32) (mo_lengths : (Nat → Int32)) (mo_codes : (Nat → Int32)) : Option ((Nat → Int32)) :=
  lp (f_Mo_findCodes_L9 mo_symbols mo_lengths) FU ((1 : Int32), (1 : Int32), (0 : Int32), (0 : Int32), mo_codes)


def f_Mo_bit (mo_told : Int32) (mo_keeps : Int32) (mo_out : (Nat → Int32)) (p0 : Int32) : Option (Int32 × (Nat → Int32)) :=
  if mo_keeps = 0 then
    nl (mo_told + (1 : Int32)) fun told_1 =>
    some (told_1, mo_out)
  else
    jn (fun (mo_out_2 : (Nat → Int32)) =>
        gq (mo_told / (8 : Int32)) 2000 <|
        nl ((mo_out_2 ((mo_told / (8 : Int32))).toNatClampNeg) ||| (p0 <<< (((7 : Int32) - (mo_told - mo_told / (8 : Int32) * (8 : Int32))) &&& 31))) fun w_3 =>
        gq (mo_told / (8 : Int32)) 2000 <|
        nl (mo_told + (1 : Int32)) fun told_4 =>
        some (told_4, (upd mo_out_2 ((mo_told / (8 : Int32))).toNatClampNeg w_3))) fun j30 =>
    if (mo_told - mo_told / (8 : Int32) * (8 : Int32)) = 0 then
      gq (mo_told / (8 : Int32)) 2000 <|
      j30 (upd mo_out ((mo_told / (8 : Int32))).toNatClampNeg (0 : Int32))
    else
      j30 mo_out


def f_Mo_low_L4 (mo_keeps : Int32) (p0 : Int32) (self4 : Int32 × Int32 × (Nat → Int32) → Option (Int32 × (Nat → Int32))) : Int32 × Int32 × (Nat → Int32) → Option (Int32 × (Nat → Int32))
  | (v3_2, mo_told_3, mo_out_4) =>
  if v3_2 < 0 then
    some (mo_told_3, mo_out_4)
  else
    bd (f_Mo_bit mo_told_3 mo_keeps mo_out_4 ((p0 >>> (v3_2 &&& 31)) &&& (1 : Int32))) fun (mo_told_5, mo_out_6) =>
    nl (v3_2 + (-1 : Int32)) fun v3_7 =>
    self4 (v3_7, mo_told_5, mo_out_6)

def f_Mo_low (mo_told : Int32) (mo_keeps : Int32) (mo_out : (Nat → Int32)) (p0 : Int32) (p1 : Int32) : Option (Int32 × (Nat → Int32)) :=
  nl (p1 - (1 : Int32)) fun v3_1 =>
  lp (f_Mo_low_L4 mo_keeps p0) FU (v3_1, mo_told, mo_out)


def f_Mo_number_L2 (p0 : Int32) (k18 : Int32 → Option (Int32 × (Nat → Int32))) (self2 : Int32 → Option (Int32 × (Nat → Int32))) (v2_1 : Int32) : Option (Int32 × (Nat → Int32)) :=
  if ((p0 + (1 : Int32)) >>> ((v2_1 + (1 : Int32)) &&& 31)) ≤ 0 then
    k18 v2_1
  else
    nl (v2_1 + (1 : Int32)) fun v2_3 =>
    self2 v2_3

def f_Mo_number (mo_told : Int32) (mo_keeps : Int32) (mo_out : (Nat → Int32)) (p0 : Int32) : Option (Int32 × (Nat → Int32)) :=
  lp (f_Mo_number_L2 p0
    (fun (v2_2 : Int32) =>
      bd (f_Mo_low mo_told mo_keeps mo_out (0 : Int32) v2_2) fun (mo_told_4, mo_out_5) =>
      bd (f_Mo_bit mo_told_4 mo_keeps mo_out_5 (1 : Int32)) fun (mo_told_6, mo_out_7) =>
      bd (f_Mo_low mo_told_6 mo_keeps mo_out_7 (p0 + (1 : Int32)) v2_2) fun (mo_told_8, mo_out_9) =>
      some (mo_told_8, mo_out_9))) FU (0 : Int32)


def f_Mo_signed (mo_told : Int32) (mo_keeps : Int32) (mo_out : (Nat → Int32)) (p0 : Int32) : Option (Int32 × (Nat → Int32)) :=
  jn (fun (s_1 : Int32) =>
      bd (f_Mo_number mo_told mo_keeps mo_out s_1) fun (mo_told_2, mo_out_3) =>
      some (mo_told_2, mo_out_3)) fun j17 =>
  if p0 < 0 then
    j17 (((-2 : Int32) * p0) - (1 : Int32))
  else
    j17 ((2 : Int32) * p0)


def f_Mo_beginRow_L2 (self2 : Int32 × (Nat → Int32) → Option ((Nat → Int32))) : Int32 × (Nat → Int32) → Option ((Nat → Int32))
  | (v1_1, mo_row_2) =>
  if (16 : Int32) ≤ v1_1 then
    some mo_row_2
  else
    gq v1_1 16 <|
    nl (v1_1 + (1 : Int32)) fun v1_3 =>
    self2 (v1_3, (upd mo_row_2 (v1_1).toNatClampNeg v1_1))

def f_Mo_beginRow (mo_row : (Nat → Int32)) : Option ((Nat → Int32)) :=
  lp (f_Mo_beginRow_L2) FU ((0 : Int32), mo_row)


def f_Mo_toFront_L9 (v2_1 : Int32) (self9 : Int32 × (Nat → Int32) → Option ((Nat → Int32))) : Int32 × (Nat → Int32) → Option ((Nat → Int32))
  | (v3_2, mo_row_3) =>
  if v3_2 ≤ 0 then
    gq (0 : Int32) 16 <|
    some (upd mo_row_3 ((0 : Int32)).toNatClampNeg v2_1)
  else
    gq (v3_2 - (1 : Int32)) 16 <|
    nl (mo_row_3 ((v3_2 - (1 : Int32))).toNatClampNeg) fun w_4 =>
    gq v3_2 16 <|
    nl (v3_2 + (-1 : Int32)) fun v3_5 =>
    self9 (v3_5, (upd mo_row_3 (v3_2).toNatClampNeg w_4))

def f_Mo_toFront (mo_row : (Nat → Int32)) (p0 : Int32) : Option ((Nat → Int32)) :=
  gq p0 16 <|
  nl (mo_row (p0).toNatClampNeg) fun v2_1 =>
  lp (f_Mo_toFront_L9 v2_1) FU (p0, mo_row)


def f_Mo_name_L26 (mo_row : (Nat → Int32)) (p0 : Int32) (k42 : Int32 → Option (Int32 × (Nat → Int32) × (Nat → Int32))) (self26 : Int32 → Option (Int32 × (Nat → Int32) × (Nat → Int32))) (v2_1 : Int32) : Option (Int32 × (Nat → Int32) × (Nat → Int32)) :=
  gq v2_1 16 <|
  if (mo_row (v2_1).toNatClampNeg) = p0 then
    k42 v2_1
  else
    nl (v2_1 + (1 : Int32)) fun v2_3 =>
    self26 v2_3

def f_Mo_name (mo_kind : Int32) (mo_told : Int32) (mo_keeps : Int32) (mo_row : (Nat → Int32)) (mo_out : (Nat → Int32)) (mo_codes : (Nat → Int32)) (mo_lengths : (Nat → Int32)) (p0 : Int32) : Option (Int32 × (Nat → Int32) × (Nat → Int32)) :=
  if mo_kind = 0 then
    gq p0 16 <|
    gq p0 16 <|
    bd (f_Mo_low mo_told mo_keeps mo_out (mo_codes (p0).toNatClampNeg) (mo_lengths (p0).toNatClampNeg)) fun (mo_told_7, mo_out_8) =>
    some (mo_told_7, mo_row, mo_out_8)
  else
    lp (f_Mo_name_L26 mo_row p0
      (fun (v2_2 : Int32) =>
        bd (f_Mo_number mo_told mo_keeps mo_out v2_2) fun (mo_told_4, mo_out_5) =>
        bd (f_Mo_toFront mo_row v2_2) fun mo_row_6 =>
        some (mo_told_4, mo_row_6, mo_out_5))) FU (0 : Int32)


def f_Mo_runs_L29 (v2_1 : Int32) (mo_wide : (Nat → Int32)) (p0 : Int32) (mo_keeps : Int32) (mo_differs : (Nat → Int64)) (v5_2 : Int32) (k96 : Int32 → Int32 → Int32 → (Nat → Int32) → Option (Int32 × (Nat → Int32))) (self29 : Int32 × Int32 × Int32 × Int32 × (Nat → Int32) → Option (Int32 × (Nat → Int32))) : Int32 × Int32 × Int32 × Int32 × (Nat → Int32) → Option (Int32 × (Nat → Int32))
  | (v6_10, v4_11, v3_12, mo_told_13, mo_out_14) =>
  gq v2_1 16 <|
  if (mo_wide (v2_1).toNatClampNeg) ≤ v6_10 then
    k96 v4_11 v3_12 mo_told_13 mo_out_14
  else
    gq p0 40 <|
    jn (fun (s_19 : Int32) =>
        jn (fun (v4_20 : Int32) (v3_21 : Int32) (mo_told_22 : Int32) (mo_out_23 : (Nat → Int32)) =>
            nl (v4_20 + (1 : Int32)) fun v4_24 =>
            nl (v6_10 + (1 : Int32)) fun v6_25 =>
            self29 (v6_25, v4_24, v3_21, mo_told_22, mo_out_23)) fun j87 =>
        if s_19 = v3_12 then
          j87 v4_11 v3_12 mo_told_13 mo_out_14
        else
          bd (f_Mo_number mo_told_13 mo_keeps mo_out_14 v4_11) fun (mo_told_26, mo_out_27) =>
          j87 (0 : Int32) s_19 mo_told_26 mo_out_27) fun j67 =>
    if (lg_cmp (((mo_differs (p0).toNatClampNeg) >>> (((((8 : Int32) * v5_2) + v6_10)).toInt64 &&& 63)) &&& (1 : Int64)) (1 : Int64)) = 0 then
      j67 (1 : Int32)
    else
      j67 (0 : Int32)

def f_Mo_runs_L15 (v2_1 : Int32) (mo_high : (Nat → Int32)) (mo_wide : (Nat → Int32)) (p0 : Int32) (mo_keeps : Int32) (mo_differs : (Nat → Int64)) (k102 : Int32 → Int32 → (Nat → Int32) → Option (Int32 × (Nat → Int32))) (self15 : Int32 × Int32 × Int32 × Int32 × (Nat → Int32) → Option (Int32 × (Nat → Int32))) : Int32 × Int32 × Int32 × Int32 × (Nat → Int32) → Option (Int32 × (Nat → Int32))
  | (v5_2, v4_3, v3_4, mo_told_5, mo_out_6) =>
  gq v2_1 16 <|
  if (mo_high (v2_1).toNatClampNeg) ≤ v5_2 then
    k102 v4_3 mo_told_5 mo_out_6
  else
    lp (f_Mo_runs_L29 v2_1 mo_wide p0 mo_keeps mo_differs v5_2
      (fun (v4_15 : Int32) (v3_16 : Int32) (mo_told_17 : Int32) (mo_out_18 : (Nat → Int32)) =>
        nl (v5_2 + (1 : Int32)) fun v5_28 =>
        self15 (v5_28, v4_15, v3_16, mo_told_17, mo_out_18))) FU ((0 : Int32), v4_3, v3_4, mo_told_5, mo_out_6)

def f_Mo_runs (mo_told : Int32) (mo_keeps : Int32) (mo_symbolOf : (Nat → Int32)) (mo_high : (Nat → Int32)) (mo_wide : (Nat → Int32)) (mo_differs : (Nat → Int64)) (mo_out : (Nat → Int32)) (p0 : Int32) : Option (Int32 × (Nat → Int32)) :=
  gq p0 40 <|
  nl (mo_symbolOf (p0).toNatClampNeg) fun v2_1 =>
  lp (f_Mo_runs_L15 v2_1 mo_high mo_wide p0 mo_keeps mo_differs
    (fun (v4_7 : Int32) (mo_told_8 : Int32) (mo_out_9 : (Nat → Int32)) =>
      bd (f_Mo_number mo_told_8 mo_keeps mo_out_9 v4_7) fun (mo_told_29, mo_out_30) =>
      some (mo_told_29, mo_out_30))) FU ((0 : Int32), (0 : Int32), (0 : Int32), mo_told, mo_out)


def f_Mo_tellAll_L118 (mo_instances : Int32) (p0 : Int32) (mo_ordered_1 : (Nat → Int32)) (mo_codes_15 : (Nat → Int32)) (mo_lengths_16 : (Nat → Int32)) (mo_weight_17 : (Nat → Int32)) (mo_used_18 : (Nat → Int32)) (mo_over_19 : (Nat → Int32)) (mo_ways : (Nat → Int32)) (mo_ys : (Nat → Int32)) (mo_high : (Nat → Int32)) (mo_symbolOf : (Nat → Int32)) (mo_xs : (Nat → Int32)) (mo_wide : (Nat → Int32)) (mo_kind : Int32) (mo_differs : (Nat → Int64)) (self118 : Int32 × Int32 × Int32 × Int32 × (Nat → Int32) × (Nat → Int32) → Option (Int32 × Int32 × (Nat → Int32) × (Nat → Int32) × (Nat → Int32) × (Nat → Int32) × (Nat → Int32) × (Nat → Int32) × (Nat → Int32) × (Nat → Int32))) : Int32 × Int32 × Int32 × Int32 × (Nat → Int32) × (Nat → Int32) → Option (Int32 × Int32 × (Nat → Int32) × (Nat → Int32) × (Nat → Int32) × (Nat → Int32) × (Nat → Int32) × (Nat → Int32) × (Nat → Int32) × (Nat → Int32))
  | (v4_20, v3_21, v2_22, mo_told_23, mo_out_24, mo_row_25) =>
  if mo_instances ≤ v4_20 then
    some (mo_told_23, p0, mo_ordered_1, mo_out_24, mo_row_25, mo_codes_15, mo_lengths_16, mo_weight_17, mo_used_18, mo_over_19)
  else
    gq v4_20 40 <|
    nl (mo_ordered_1 (v4_20).toNatClampNeg) fun v5_26 =>
    bd (f_Mo_stripOf mo_ways mo_ys mo_high mo_symbolOf mo_xs mo_wide v5_26) fun r_27 =>
    jn (fun (v3_28 : Int32) (v2_29 : Int32) (mo_told_30 : Int32) (mo_out_31 : (Nat → Int32)) =>
        bd (f_Mo_tOf mo_ways mo_ys mo_high mo_symbolOf mo_xs mo_wide v5_26) fun r_32 =>
        gq (2 : Int32) 4 <|
        gq (2 : Int32) 4 <|
        bd (f_Mo_low mo_told_30 p0 mo_out_31 (r_32 - (r_27 <<< ((mo_ways ((2 : Int32)).toNatClampNeg) &&& 31))) (mo_ways ((2 : Int32)).toNatClampNeg)) fun (mo_told_33, mo_out_34) =>
        gq v5_26 40 <|
        bd (f_Mo_name mo_kind mo_told_33 p0 mo_row_25 mo_out_34 mo_codes_15 mo_lengths_16 (mo_symbolOf (v5_26).toNatClampNeg)) fun (mo_told_35, mo_row_36, mo_out_37) =>
        gq v5_26 40 <|
        jn (fun (s_38 : Int32) =>
            bd (f_Mo_bit mo_told_35 p0 mo_out_37 s_38) fun (mo_told_39, mo_out_40) =>
            gq v5_26 40 <|
            jn (fun (mo_told_41 : Int32) (mo_out_42 : (Nat → Int32)) =>
                jn (fun (mo_told_43 : Int32) (mo_out_44 : (Nat → Int32)) =>
                    nl (v4_20 + (1 : Int32)) fun v4_45 =>
                    self118 (v4_45, v3_28, v2_29, mo_told_43, mo_out_44, mo_row_36)) fun j388 =>
                jn (fun (_ : Unit) =>
                    bd (f_Mo_bit mo_told_41 p0 mo_out_42 (0 : Int32)) fun (mo_told_46, mo_out_47) =>
                    j388 mo_told_46 mo_out_47) fun j383 =>
                if (v4_20 + (1 : Int32)) = mo_instances then
                  j383 ()
                else
                  gq (v4_20 + (1 : Int32)) 40 <|
                  bd (f_Mo_stripOf mo_ways mo_ys mo_high mo_symbolOf mo_xs mo_wide (mo_ordered_1 ((v4_20 + (1 : Int32))).toNatClampNeg)) fun r_48 =>
                  if r_48 = r_27 then
                    j388 mo_told_41 mo_out_42
                  else
                    j383 ()) fun j354 =>
            if (lg_cmp (mo_differs (v5_26).toNatClampNeg) (0 : Int64)) = 0 then
              j354 mo_told_39 mo_out_40
            else
              bd (f_Mo_runs mo_told_39 p0 mo_symbolOf mo_high mo_wide mo_differs mo_out_40 v5_26) fun (mo_told_49, mo_out_50) =>
              j354 mo_told_49 mo_out_50) fun j333 =>
        if (lg_cmp (mo_differs (v5_26).toNatClampNeg) (0 : Int64)) = 0 then
          j333 (0 : Int32)
        else
          j333 (1 : Int32)) fun j278 =>
    jn (fun (_ : Unit) =>
        jn (fun (s_51 : Int32) =>
            bd (f_Mo_number mo_told_23 p0 mo_out_24 s_51) fun (mo_told_52, mo_out_53) =>
            bd (f_Mo_sOf mo_ways mo_xs mo_wide mo_symbolOf mo_ys mo_high v5_26) fun r_54 =>
            bd (f_Mo_signed mo_told_52 p0 mo_out_53 (r_54 - v3_21)) fun (mo_told_55, mo_out_56) =>
            bd (f_Mo_sOf mo_ways mo_xs mo_wide mo_symbolOf mo_ys mo_high v5_26) fun r_57 =>
            j278 r_57 r_27 mo_told_55 mo_out_56) fun j175 =>
        if v4_20 = 0 then
          j175 (r_27 + (16 : Int32))
        else
          j175 ((r_27 - v2_22) - (1 : Int32))) fun j155 =>
    if v4_20 = 0 then
      j155 ()
    else
      if r_27 = v2_22 then
        gq (v4_20 - (1 : Int32)) 40 <|
        nl (mo_ordered_1 ((v4_20 - (1 : Int32))).toNatClampNeg) fun v7_58 =>
        bd (f_Mo_sOf mo_ways mo_xs mo_wide mo_symbolOf mo_ys mo_high v7_58) fun r_59 =>
        gq (1 : Int32) 4 <|
        jn (fun (s_60 : Int32) (s_61 : Int32) =>
            nl (s_60 + s_61) fun v8_62 =>
            bd (f_Mo_bit mo_told_23 p0 mo_out_24 (1 : Int32)) fun (mo_told_63, mo_out_64) =>
            bd (f_Mo_sOf mo_ways mo_xs mo_wide mo_symbolOf mo_ys mo_high v5_26) fun r_65 =>
            bd (f_Mo_signed mo_told_63 p0 mo_out_64 (r_65 - v8_62)) fun (mo_told_66, mo_out_67) =>
            j278 v3_21 v2_22 mo_told_66 mo_out_67) fun j257 =>
        if (mo_ways ((1 : Int32)).toNatClampNeg) = (1 : Int32) then
          gq v7_58 40 <|
          gq (mo_symbolOf (v7_58).toNatClampNeg) 16 <|
          j257 r_59 (mo_high ((mo_symbolOf (v7_58).toNatClampNeg)).toNatClampNeg)
        else
          gq v7_58 40 <|
          gq (mo_symbolOf (v7_58).toNatClampNeg) 16 <|
          j257 r_59 (mo_wide ((mo_symbolOf (v7_58).toNatClampNeg)).toNatClampNeg)
      else
        j155 ()

def f_Mo_tellAll_L86 (mo_symbols : Int32) (j111 : Int32 → (Nat → Int32) → (Nat → Int32) → (Nat → Int32) → (Nat → Int32) → (Nat → Int32) → (Nat → Int32) → Option (Int32 × Int32 × (Nat → Int32) × (Nat → Int32) × (Nat → Int32) × (Nat → Int32) × (Nat → Int32) × (Nat → Int32) × (Nat → Int32) × (Nat → Int32))) (mo_codes_72 : (Nat → Int32)) (mo_lengths_71 : (Nat → Int32)) (mo_weight_68 : (Nat → Int32)) (mo_used_69 : (Nat → Int32)) (mo_over_70 : (Nat → Int32)) (p0 : Int32) (self86 : Int32 × Int32 × (Nat → Int32) → Option (Int32 × Int32 × (Nat → Int32) × (Nat → Int32) × (Nat → Int32) × (Nat → Int32) × (Nat → Int32) × (Nat → Int32) × (Nat → Int32) × (Nat → Int32))) : Int32 × Int32 × (Nat → Int32) → Option (Int32 × Int32 × (Nat → Int32) × (Nat → Int32) × (Nat → Int32) × (Nat → Int32) × (Nat → Int32) × (Nat → Int32) × (Nat → Int32) × (Nat → Int32))
  | (v2_73, mo_told_74, mo_out_75) =>
  if mo_symbols ≤ v2_73 then
    j111 mo_told_74 mo_out_75 mo_codes_72 mo_lengths_71 mo_weight_68 mo_used_69 mo_over_70
  else
    gq v2_73 16 <|
    bd (f_Mo_low mo_told_74 p0 mo_out_75 (mo_lengths_71 (v2_73).toNatClampNeg) (4 : Int32)) fun (mo_told_76, mo_out_77) =>
    nl (v2_73 + (1 : Int32)) fun v2_78 =>
    self86 (v2_78, mo_told_76, mo_out_77)

def f_Mo_tellAll (mo_kind : Int32) (mo_symbols : Int32) (mo_instances : Int32) (mo_ordered : (Nat → Int32)) (mo_ways : (Nat → Int32)) (mo_ys : (Nat → Int32)) (mo_high : (Nat → Int32)) (mo_symbolOf : (Nat → Int32)) (mo_xs : (Nat → Int32)) (mo_wide : (Nat → Int32)) (mo_out : (Nat → Int32)) (mo_row : (Nat → Int32)) (mo_codes : (Nat → Int32)) (mo_lengths : (Nat → Int32)) (mo_differs : (Nat → Int64)) (mo_weight : (Nat → Int32)) (mo_used : (Nat → Int32)) (mo_over : (Nat → Int32)) (p0 : Int32) : Option (Int32 × Int32 × (Nat → Int32) × (Nat → Int32) × (Nat → Int32) × (Nat → Int32) × (Nat → Int32) × (Nat → Int32) × (Nat → Int32) × (Nat → Int32)) :=
  bz p0 <|
  bd (f_Mo_sort mo_instances mo_ordered mo_ways mo_ys mo_high mo_symbolOf mo_xs mo_wide) fun mo_ordered_1 =>
  bd (f_Mo_number (0 : Int32) p0 mo_out mo_instances) fun (mo_told_2, mo_out_3) =>
  gq (2 : Int32) 4 <|
  bd (f_Mo_low mo_told_2 p0 mo_out_3 (mo_ways ((2 : Int32)).toNatClampNeg) (2 : Int32)) fun (mo_told_4, mo_out_5) =>
  gq (1 : Int32) 4 <|
  bd (f_Mo_bit mo_told_4 p0 mo_out_5 (mo_ways ((1 : Int32)).toNatClampNeg)) fun (mo_told_6, mo_out_7) =>
  gq (0 : Int32) 4 <|
  bd (f_Mo_low mo_told_6 p0 mo_out_7 (mo_ways ((0 : Int32)).toNatClampNeg) (2 : Int32)) fun (mo_told_8, mo_out_9) =>
  gq (3 : Int32) 4 <|
  bd (f_Mo_low mo_told_8 p0 mo_out_9 (mo_ways ((3 : Int32)).toNatClampNeg) (3 : Int32)) fun (mo_told_10, mo_out_11) =>
  bd (f_Mo_beginRow mo_row) fun mo_row_12 =>
  jn (fun (mo_told_13 : Int32) (mo_out_14 : (Nat → Int32)) (mo_codes_15 : (Nat → Int32)) (mo_lengths_16 : (Nat → Int32)) (mo_weight_17 : (Nat → Int32)) (mo_used_18 : (Nat → Int32)) (mo_over_19 : (Nat → Int32)) =>
      lp (f_Mo_tellAll_L118 mo_instances p0 mo_ordered_1 mo_codes_15 mo_lengths_16 mo_weight_17 mo_used_18 mo_over_19 mo_ways mo_ys mo_high mo_symbolOf mo_xs mo_wide mo_kind mo_differs) FU ((0 : Int32), (0 : Int32), (0 : Int32), mo_told_13, mo_out_14, mo_row_12)) fun j111 =>
  if mo_kind = 0 then
    bd (f_Mo_findLengths mo_symbols mo_instances mo_weight mo_used mo_over mo_symbolOf mo_lengths) fun (mo_weight_68, mo_used_69, mo_over_70, mo_lengths_71) =>
    bd (f_Mo_findCodes mo_symbols mo_lengths_71 mo_codes) fun mo_codes_72 =>
    lp (f_Mo_tellAll_L86 mo_symbols j111 mo_codes_72 mo_lengths_71 mo_weight_68 mo_used_69 mo_over_70 p0) FU ((0 : Int32), mo_told_10, mo_out_11)
  else
    j111 mo_told_10 mo_out_11 mo_codes mo_lengths mo_weight mo_used mo_over


def f_Mo_change (mo_symbolOf : (Nat → Int32)) (mo_xs : (Nat → Int32)) (mo_ys : (Nat → Int32)) (mo_differs : (Nat → Int64)) (p0 : Int32) (p1 : Int32) : Option ((Nat → Int32) × (Nat → Int32) × (Nat → Int32) × (Nat → Int64)) :=
  gq p0 40 <|
  nl (mo_symbolOf (p0).toNatClampNeg) fun v3_1 =>
  gq p1 40 <|
  nl (mo_symbolOf (p1).toNatClampNeg) fun w_2 =>
  gq p0 40 <|
  gq p1 40 <|
  gq p0 40 <|
  nl (mo_xs (p0).toNatClampNeg) fun v3_3 =>
  gq p1 40 <|
  nl (mo_xs (p1).toNatClampNeg) fun w_4 =>
  gq p0 40 <|
  gq p1 40 <|
  gq p0 40 <|
  nl (mo_ys (p0).toNatClampNeg) fun v3_5 =>
  gq p1 40 <|
  nl (mo_ys (p1).toNatClampNeg) fun w_6 =>
  gq p0 40 <|
  gq p1 40 <|
  gq p0 40 <|
  nl (mo_differs (p0).toNatClampNeg) fun v4_7 =>
  gq p1 40 <|
  nl (mo_differs (p1).toNatClampNeg) fun w_8 =>
  gq p0 40 <|
  gq p1 40 <|
  some ((upd (upd mo_symbolOf (p0).toNatClampNeg w_2) (p1).toNatClampNeg v3_1), (upd (upd mo_xs (p0).toNatClampNeg w_4) (p1).toNatClampNeg v3_3), (upd (upd mo_ys (p0).toNatClampNeg w_6) (p1).toNatClampNeg v3_5), (vp_updL (vp_updL mo_differs (p0).toNatClampNeg w_8) (p1).toNatClampNeg v4_7))


def f_Mo_order_L72 (mo_instances : Int32) (mo_ways : (Nat → Int32)) (mo_high : (Nat → Int32)) (mo_wide : (Nat → Int32)) (mo_kind : Int32) (mo_symbols : Int32) (k149 : Int32 → Int32 → Int32 → Int32 → (Nat → Int32) → (Nat → Int32) → (Nat → Int32) → (Nat → Int32) → (Nat → Int32) → (Nat → Int32) → (Nat → Int32) → (Nat → Int32) → (Nat → Int64) → (Nat → Int32) → (Nat → Int32) → (Nat → Int32) → Option (Int32 × Int32 × Int32 × Int32 × (Nat → Int32) × (Nat → Int32) × (Nat → Int32) × (Nat → Int32) × (Nat → Int32) × (Nat → Int32) × (Nat → Int32) × (Nat → Int32) × (Nat → Int64) × (Nat → Int32) × (Nat → Int32) × (Nat → Int32))) (self72 : Int32 × Int32 × Int32 × Int32 × Int32 × (Nat → Int32) × (Nat → Int32) × (Nat → Int32) × (Nat → Int32) × (Nat → Int32) × (Nat → Int32) × (Nat → Int32) × (Nat → Int32) × (Nat → Int64) × (Nat → Int32) × (Nat → Int32) × (Nat → Int32) → Option (Int32 × Int32 × Int32 × Int32 × (Nat → Int32) × (Nat → Int32) × (Nat → Int32) × (Nat → Int32) × (Nat → Int32) × (Nat → Int32) × (Nat → Int32) × (Nat → Int32) × (Nat → Int64) × (Nat → Int32) × (Nat → Int32) × (Nat → Int32))) : Int32 × Int32 × Int32 × Int32 × Int32 × (Nat → Int32) × (Nat → Int32) × (Nat → Int32) × (Nat → Int32) × (Nat → Int32) × (Nat → Int32) × (Nat → Int32) × (Nat → Int32) × (Nat → Int64) × (Nat → Int32) × (Nat → Int32) × (Nat → Int32) → Option (Int32 × Int32 × Int32 × Int32 × (Nat → Int32) × (Nat → Int32) × (Nat → Int32) × (Nat → Int32) × (Nat → Int32) × (Nat → Int32) × (Nat → Int32) × (Nat → Int32) × (Nat → Int64) × (Nat → Int32) × (Nat → Int32) × (Nat → Int32))
  | (v5_31, v3_32, v2_33, mo_told_34, mo_keeps_35, mo_ordered_36, mo_ys_37, mo_symbolOf_38, mo_xs_39, mo_out_40, mo_row_41, mo_codes_42, mo_lengths_43, mo_differs_44, mo_weight_45, mo_used_46, mo_over_47) =>
  if mo_instances ≤ (v5_31 + (1 : Int32)) then
    k149 v3_32 v2_33 mo_told_34 mo_keeps_35 mo_ordered_36 mo_ys_37 mo_symbolOf_38 mo_xs_39 mo_out_40 mo_row_41 mo_codes_42 mo_lengths_43 mo_differs_44 mo_weight_45 mo_used_46 mo_over_47
  else
    bd (f_Mo_stripOf mo_ways mo_ys_37 mo_high mo_symbolOf_38 mo_xs_39 mo_wide v5_31) fun r_64 =>
    bd (f_Mo_stripOf mo_ways mo_ys_37 mo_high mo_symbolOf_38 mo_xs_39 mo_wide (v5_31 + (1 : Int32))) fun r_65 =>
    jn (fun (v3_66 : Int32) (v2_67 : Int32) (mo_told_68 : Int32) (mo_keeps_69 : Int32) (mo_ordered_70 : (Nat → Int32)) (mo_ys_71 : (Nat → Int32)) (mo_symbolOf_72 : (Nat → Int32)) (mo_xs_73 : (Nat → Int32)) (mo_out_74 : (Nat → Int32)) (mo_row_75 : (Nat → Int32)) (mo_codes_76 : (Nat → Int32)) (mo_lengths_77 : (Nat → Int32)) (mo_differs_78 : (Nat → Int64)) (mo_weight_79 : (Nat → Int32)) (mo_used_80 : (Nat → Int32)) (mo_over_81 : (Nat → Int32)) =>
        nl (v5_31 + (1 : Int32)) fun v5_82 =>
        self72 (v5_82, v3_66, v2_67, mo_told_68, mo_keeps_69, mo_ordered_70, mo_ys_71, mo_symbolOf_72, mo_xs_73, mo_out_74, mo_row_75, mo_codes_76, mo_lengths_77, mo_differs_78, mo_weight_79, mo_used_80, mo_over_81)) fun j143 =>
    if r_64 = r_65 then
      bd (f_Mo_change mo_symbolOf_38 mo_xs_39 mo_ys_37 mo_differs_44 v5_31 (v5_31 + (1 : Int32))) fun (mo_symbolOf_83, mo_xs_84, mo_ys_85, mo_differs_86) =>
      bd (f_Mo_tellAll mo_kind mo_symbols mo_instances mo_ordered_36 mo_ways mo_ys_85 mo_high mo_symbolOf_83 mo_xs_84 mo_wide mo_out_40 mo_row_41 mo_codes_42 mo_lengths_43 mo_differs_86 mo_weight_45 mo_used_46 mo_over_47 (0 : Int32)) fun (mo_told_87, mo_keeps_88, mo_ordered_89, mo_out_90, mo_row_91, mo_codes_92, mo_lengths_93, mo_weight_94, mo_used_95, mo_over_96) =>
      if v2_33 ≤ mo_told_87 then
        bd (f_Mo_change mo_symbolOf_83 mo_xs_84 mo_ys_85 mo_differs_86 v5_31 (v5_31 + (1 : Int32))) fun (mo_symbolOf_97, mo_xs_98, mo_ys_99, mo_differs_100) =>
        j143 v3_32 v2_33 mo_told_87 mo_keeps_88 mo_ordered_89 mo_ys_99 mo_symbolOf_97 mo_xs_98 mo_out_90 mo_row_91 mo_codes_92 mo_lengths_93 mo_differs_100 mo_weight_94 mo_used_95 mo_over_96
      else
        j143 (1 : Int32) mo_told_87 mo_told_87 mo_keeps_88 mo_ordered_89 mo_ys_85 mo_symbolOf_83 mo_xs_84 mo_out_90 mo_row_91 mo_codes_92 mo_lengths_93 mo_differs_86 mo_weight_94 mo_used_95 mo_over_96
    else
      j143 v3_32 v2_33 mo_told_34 mo_keeps_35 mo_ordered_36 mo_ys_37 mo_symbolOf_38 mo_xs_39 mo_out_40 mo_row_41 mo_codes_42 mo_lengths_43 mo_differs_44 mo_weight_45 mo_used_46 mo_over_47

def f_Mo_order_L57 (p0 : Int32) (s_2 : Int32) (mo_instances : Int32) (mo_ways : (Nat → Int32)) (mo_high : (Nat → Int32)) (mo_wide : (Nat → Int32)) (mo_kind : Int32) (mo_symbols : Int32) (self57 : Int32 × Int32 × Int32 × Int32 × Int32 × (Nat → Int32) × (Nat → Int32) × (Nat → Int32) × (Nat → Int32) × (Nat → Int32) × (Nat → Int32) × (Nat → Int32) × (Nat → Int32) × (Nat → Int64) × (Nat → Int32) × (Nat → Int32) × (Nat → Int32) → Option (Int32 × Int32 × Int32 × Int32 × (Nat → Int32) × (Nat → Int32) × (Nat → Int32) × (Nat → Int32) × (Nat → Int32) × (Nat → Int32) × (Nat → Int32) × (Nat → Int32) × (Nat → Int64) × (Nat → Int32) × (Nat → Int32) × (Nat → Int32))) : Int32 × Int32 × Int32 × Int32 × Int32 × (Nat → Int32) × (Nat → Int32) × (Nat → Int32) × (Nat → Int32) × (Nat → Int32) × (Nat → Int32) × (Nat → Int32) × (Nat → Int32) × (Nat → Int64) × (Nat → Int32) × (Nat → Int32) × (Nat → Int32) → Option (Int32 × Int32 × Int32 × Int32 × (Nat → Int32) × (Nat → Int32) × (Nat → Int32) × (Nat → Int32) × (Nat → Int32) × (Nat → Int32) × (Nat → Int32) × (Nat → Int32) × (Nat → Int64) × (Nat → Int32) × (Nat → Int32) × (Nat → Int32))
  | (v4_14, v3_15, v2_16, mo_told_17, mo_keeps_18, mo_ordered_19, mo_ys_20, mo_symbolOf_21, mo_xs_22, mo_out_23, mo_row_24, mo_codes_25, mo_lengths_26, mo_differs_27, mo_weight_28, mo_used_29, mo_over_30) =>
  if p0 ≤ v4_14 then
    some (v2_16, s_2, mo_told_17, mo_keeps_18, mo_ordered_19, mo_ys_20, mo_symbolOf_21, mo_xs_22, mo_out_23, mo_row_24, mo_codes_25, mo_lengths_26, mo_differs_27, mo_weight_28, mo_used_29, mo_over_30)
  else
    if v3_15 = 0 then
      some (v2_16, s_2, mo_told_17, mo_keeps_18, mo_ordered_19, mo_ys_20, mo_symbolOf_21, mo_xs_22, mo_out_23, mo_row_24, mo_codes_25, mo_lengths_26, mo_differs_27, mo_weight_28, mo_used_29, mo_over_30)
    else
      lp (f_Mo_order_L72 mo_instances mo_ways mo_high mo_wide mo_kind mo_symbols
        (fun (v3_48 : Int32) (v2_49 : Int32) (mo_told_50 : Int32) (mo_keeps_51 : Int32) (mo_ordered_52 : (Nat → Int32)) (mo_ys_53 : (Nat → Int32)) (mo_symbolOf_54 : (Nat → Int32)) (mo_xs_55 : (Nat → Int32)) (mo_out_56 : (Nat → Int32)) (mo_row_57 : (Nat → Int32)) (mo_codes_58 : (Nat → Int32)) (mo_lengths_59 : (Nat → Int32)) (mo_differs_60 : (Nat → Int64)) (mo_weight_61 : (Nat → Int32)) (mo_used_62 : (Nat → Int32)) (mo_over_63 : (Nat → Int32)) =>
          nl (v4_14 + (1 : Int32)) fun v4_101 =>
          self57 (v4_101, v3_48, v2_49, mo_told_50, mo_keeps_51, mo_ordered_52, mo_ys_53, mo_symbolOf_54, mo_xs_55, mo_out_56, mo_row_57, mo_codes_58, mo_lengths_59, mo_differs_60, mo_weight_61, mo_used_62, mo_over_63))) FU ((0 : Int32), (0 : Int32), v2_16, mo_told_17, mo_keeps_18, mo_ordered_19, mo_ys_20, mo_symbolOf_21, mo_xs_22, mo_out_23, mo_row_24, mo_codes_25, mo_lengths_26, mo_differs_27, mo_weight_28, mo_used_29, mo_over_30)

def f_Mo_order (mo_kind : Int32) (mo_symbols : Int32) (mo_instances : Int32) (mo_told : Int32) (mo_keeps : Int32) (mo_ordered : (Nat → Int32)) (mo_ways : (Nat → Int32)) (mo_ys : (Nat → Int32)) (mo_high : (Nat → Int32)) (mo_symbolOf : (Nat → Int32)) (mo_xs : (Nat → Int32)) (mo_wide : (Nat → Int32)) (mo_out : (Nat → Int32)) (mo_row : (Nat → Int32)) (mo_codes : (Nat → Int32)) (mo_lengths : (Nat → Int32)) (mo_differs : (Nat → Int64)) (mo_weight : (Nat → Int32)) (mo_used : (Nat → Int32)) (mo_over : (Nat → Int32)) (p0 : Int32) : Option (Int32 × Int32 × Int32 × Int32 × (Nat → Int32) × (Nat → Int32) × (Nat → Int32) × (Nat → Int32) × (Nat → Int32) × (Nat → Int32) × (Nat → Int32) × (Nat → Int32) × (Nat → Int64) × (Nat → Int32) × (Nat → Int32) × (Nat → Int32)) :=
  bd (f_Mo_isIn p0 (0 : Int32) (8 : Int32)) fun r_1 =>
  jn (fun (s_2 : Int32) =>
      if s_2 ≤ 0 then
        bd (f_Mo_tellAll mo_kind mo_symbols mo_instances mo_ordered mo_ways mo_ys mo_high mo_symbolOf mo_xs mo_wide mo_out mo_row mo_codes mo_lengths mo_differs mo_weight mo_used mo_over (0 : Int32)) fun (mo_told_3, mo_keeps_4, mo_ordered_5, mo_out_6, mo_row_7, mo_codes_8, mo_lengths_9, mo_weight_10, mo_used_11, mo_over_12) =>
        gq (3 : Int32) 4 <|
        jn (fun (s_13 : Int32) =>
            lp (f_Mo_order_L57 p0 s_2 mo_instances mo_ways mo_high mo_wide mo_kind mo_symbols) FU ((0 : Int32), s_13, mo_told_3, mo_told_3, mo_keeps_4, mo_ordered_5, mo_ys, mo_symbolOf, mo_xs, mo_out_6, mo_row_7, mo_codes_8, mo_lengths_9, mo_differs, mo_weight_10, mo_used_11, mo_over_12)) fun j53 =>
        if (mo_ways ((3 : Int32)).toNatClampNeg) = (4 : Int32) then
          j53 (0 : Int32)
        else
          j53 (1 : Int32)
      else
        some ((0 : Int32), s_2, mo_told, mo_keeps, mo_ordered, mo_ys, mo_symbolOf, mo_xs, mo_out, mo_row, mo_codes, mo_lengths, mo_differs, mo_weight, mo_used, mo_over)) fun j16 =>
  if r_1 = 0 then
    j16 (1 : Int32)
  else
    j16 (0 : Int32)


def f_Mo_write (mo_kind : Int32) (mo_symbols : Int32) (mo_instances : Int32) (mo_ordered : (Nat → Int32)) (mo_ways : (Nat → Int32)) (mo_ys : (Nat → Int32)) (mo_high : (Nat → Int32)) (mo_symbolOf : (Nat → Int32)) (mo_xs : (Nat → Int32)) (mo_wide : (Nat → Int32)) (mo_out : (Nat → Int32)) (mo_row : (Nat → Int32)) (mo_codes : (Nat → Int32)) (mo_lengths : (Nat → Int32)) (mo_differs : (Nat → Int64)) (mo_weight : (Nat → Int32)) (mo_used : (Nat → Int32)) (mo_over : (Nat → Int32)) : Option (Int32 × Int32 × Int32 × Int32 × Int32 × (Nat → Int32) × (Nat → Int32) × (Nat → Int32) × (Nat → Int32) × (Nat → Int32) × (Nat → Int32) × (Nat → Int32) × (Nat → Int32)) :=
  bd (f_Mo_tellAll mo_kind mo_symbols mo_instances mo_ordered mo_ways mo_ys mo_high mo_symbolOf mo_xs mo_wide mo_out mo_row mo_codes mo_lengths mo_differs mo_weight mo_used mo_over (1 : Int32)) fun (mo_told_1, mo_keeps_2, mo_ordered_3, mo_out_4, mo_row_5, mo_codes_6, mo_lengths_7, mo_weight_8, mo_used_9, mo_over_10) =>
  nl ((mo_told_1 + (7 : Int32)) / (8 : Int32)) fun toldBytes_11 =>
  some (toldBytes_11, (0 : Int32), mo_told_1, mo_keeps_2, toldBytes_11, mo_ordered_3, mo_out_4, mo_row_5, mo_codes_6, mo_lengths_7, mo_weight_8, mo_used_9, mo_over_10)


def f_Mo_byteAt (mo_toldBytes : Int32) (mo_out : (Nat → Int32)) (p0 : Int32) : Option (Int32 × Int32) :=
  bd (f_Mo_isIn p0 (0 : Int32) (mo_toldBytes - (1 : Int32))) fun r_1 =>
  jn (fun (s_2 : Int32) =>
      if s_2 ≤ 0 then
        gq p0 2000 <|
        some ((mo_out (p0).toNatClampNeg), s_2)
      else
        some ((0 : Int32), s_2)) fun j20 =>
  if r_1 = 0 then
    j20 (1 : Int32)
  else
    j20 (0 : Int32)


def f_Mo_feed (mo_came : Int32) (mo_in : (Nat → Int32)) (p0 : Int32) : Option (Int32 × Int32 × Int32 × (Nat → Int32)) :=
  bd (f_Mo_isIn p0 (0 : Int32) (255 : Int32)) fun r_1 =>
  jn (fun (s_2 : Int32) =>
      if s_2 ≤ 0 then
        gq mo_came 2000 <|
        nl (mo_came + (1 : Int32)) fun came_3 =>
        some (came_3, s_2, came_3, (upd mo_in (mo_came).toNatClampNeg p0))
      else
        some ((0 : Int32), s_2, mo_came, mo_in)) fun j31 =>
  if r_1 = 0 then
    j31 (1 : Int32)
  else
    if mo_came = (2000 : Int32) then
      j31 (2 : Int32)
    else
      j31 (0 : Int32)


def f_Mo_pass_L35 (mo_toldBytes : Int32) (mo_out : (Nat → Int32)) (mo_came : Int32) (k66 : (Nat → Int32) → Option (Int32 × Int32 × Int32 × (Nat → Int32))) (self35 : Int32 × (Nat → Int32) → Option (Int32 × Int32 × Int32 × (Nat → Int32))) : Int32 × (Nat → Int32) → Option (Int32 × Int32 × Int32 × (Nat → Int32))
  | (v1_2, mo_in_3) =>
  if mo_toldBytes ≤ v1_2 then
    k66 mo_in_3
  else
    gq v1_2 2000 <|
    nl (mo_out (v1_2).toNatClampNeg) fun w_5 =>
    gq (mo_came + v1_2) 2000 <|
    nl (v1_2 + (1 : Int32)) fun v1_6 =>
    self35 (v1_6, (upd mo_in_3 ((mo_came + v1_2)).toNatClampNeg w_5))

def f_Mo_pass (mo_toldBytes : Int32) (mo_came : Int32) (mo_in : (Nat → Int32)) (mo_out : (Nat → Int32)) : Option (Int32 × Int32 × Int32 × (Nat → Int32)) :=
  jn (fun (s_1 : Int32) =>
      if s_1 ≤ 0 then
        lp (f_Mo_pass_L35 mo_toldBytes mo_out mo_came
          (fun (mo_in_4 : (Nat → Int32)) =>
            nl (mo_came + mo_toldBytes) fun came_7 =>
            some (came_7, s_1, came_7, mo_in_4))) FU ((0 : Int32), mo_in)
      else
        some ((0 : Int32), s_1, mo_came, mo_in)) fun j21 =>
  if (mo_came + mo_toldBytes) ≤ (2000 : Int32) then
    j21 (0 : Int32)
  else
    j21 (1 : Int32)


def f_Mo_refuse (mo_refused : Int32) (p0 : Int32) : Option (Int32) :=
  if mo_refused = 0 then
    some p0
  else
    some mo_refused


def f_Mo_next (mo_came : Int32) (mo_at : Int32) (mo_refused : Int32) (mo_in : (Nat → Int32)) : Option (Int32 × Int32 × Int32) :=
  jn (fun (mo_refused_1 : Int32) =>
      if mo_refused_1 ≤ 0 then
        gq (mo_at / (8 : Int32)) 2000 <|
        nl (((mo_in ((mo_at / (8 : Int32))).toNatClampNeg) >>> (((7 : Int32) - (mo_at - mo_at / (8 : Int32) * (8 : Int32))) &&& 31)) &&& (1 : Int32)) fun v1_2 =>
        nl (mo_at + (1 : Int32)) fun at_3 =>
        some (v1_2, at_3, mo_refused_1)
      else
        some ((0 : Int32), mo_at, mo_refused_1)) fun j26 =>
  if mo_refused = 0 then
    if mo_at = ((8 : Int32) * mo_came) then
      bd (f_Mo_refuse mo_refused (1 : Int32)) fun mo_refused_4 =>
      j26 mo_refused_4
    else
      j26 mo_refused
  else
    j26 mo_refused


def f_Mo_nextLow_L4 (p0 : Int32) (mo_came : Int32) (mo_in : (Nat → Int32)) (self4 : Int32 × Int32 × Int32 × Int32 → Option (Int32 × Int32 × Int32)) : Int32 × Int32 × Int32 × Int32 → Option (Int32 × Int32 × Int32)
  | (v3_1, v2_2, mo_at_3, mo_refused_4) =>
  if p0 ≤ v3_1 then
    some (v2_2, mo_at_3, mo_refused_4)
  else
    bd (f_Mo_next mo_came mo_at_3 mo_refused_4 mo_in) fun (r_5, mo_at_6, mo_refused_7) =>
    nl (((2 : Int32) * v2_2) + r_5) fun v2_8 =>
    nl (v3_1 + (1 : Int32)) fun v3_9 =>
    self4 (v3_9, v2_8, mo_at_6, mo_refused_7)

def f_Mo_nextLow (mo_came : Int32) (mo_at : Int32) (mo_refused : Int32) (mo_in : (Nat → Int32)) (p0 : Int32) : Option (Int32 × Int32 × Int32) :=
  lp (f_Mo_nextLow_L4 p0 mo_came mo_in) FU ((0 : Int32), (0 : Int32), mo_at, mo_refused)


def f_Mo_nextNumber_L7 (mo_came : Int32) (mo_in : (Nat → Int32)) (k44 : Int32 → Int32 → Int32 → Option (Int32 × Int32 × Int32)) (self7 : Int32 × Int32 × Int32 × Int32 → Option (Int32 × Int32 × Int32)) : Int32 × Int32 × Int32 × Int32 → Option (Int32 × Int32 × Int32)
  | (v2_4, v1_5, mo_at_6, mo_refused_7) =>
  if mo_refused_7 = 0 then
    if v2_4 = 0 then
      nl (v1_5 + (1 : Int32)) fun v1_11 =>
      if v1_11 ≤ (12 : Int32) then
        bd (f_Mo_next mo_came mo_at_6 mo_refused_7 mo_in) fun (r_12, mo_at_13, mo_refused_14) =>
        self7 (r_12, v1_11, mo_at_13, mo_refused_14)
      else
        bd (f_Mo_refuse mo_refused_7 (8 : Int32)) fun mo_refused_15 =>
        self7 (v2_4, v1_11, mo_at_6, mo_refused_15)
    else
      k44 v1_5 mo_at_6 mo_refused_7
  else
    k44 v1_5 mo_at_6 mo_refused_7

def f_Mo_nextNumber (mo_came : Int32) (mo_at : Int32) (mo_refused : Int32) (mo_in : (Nat → Int32)) : Option (Int32 × Int32 × Int32) :=
  bd (f_Mo_next mo_came mo_at mo_refused mo_in) fun (r_1, mo_at_2, mo_refused_3) =>
  lp (f_Mo_nextNumber_L7 mo_came mo_in
    (fun (v1_8 : Int32) (mo_at_9 : Int32) (mo_refused_10 : Int32) =>
      bd (f_Mo_nextLow mo_came mo_at_9 mo_refused_10 mo_in v1_8) fun (r_16, mo_at_17, mo_refused_18) =>
      nl ((((1 : Int32) <<< (v1_8 &&& 31)) + r_16) - (1 : Int32)) fun v3_19 =>
      if mo_refused_18 ≤ 0 then
        some (v3_19, mo_at_17, mo_refused_18)
      else
        some ((0 : Int32), mo_at_17, mo_refused_18))) FU (r_1, (0 : Int32), mo_at_2, mo_refused_3)


def f_Mo_nextSigned (mo_came : Int32) (mo_at : Int32) (mo_refused : Int32) (mo_in : (Nat → Int32)) : Option (Int32 × Int32 × Int32) :=
  bd (f_Mo_nextNumber mo_came mo_at mo_refused mo_in) fun (r_1, mo_at_2, mo_refused_3) =>
  if (r_1 - r_1 / (2 : Int32) * (2 : Int32)) = 0 then
    some ((r_1 / (2 : Int32)), mo_at_2, mo_refused_3)
  else
    some (((-(r_1 / (2 : Int32))) - (1 : Int32)), mo_at_2, mo_refused_3)


def f_Mo_readCodes_L7 (mo_symbols : Int32) (mo_came : Int32) (mo_in : (Nat → Int32)) (k79 : Int32 → Int32 → Int32 → Int32 → (Nat → Int32) → Option (Int32 × Int32 × (Nat → Int32) × (Nat → Int32))) (self7 : Int32 × Int32 × Int32 × Int32 × Int32 × (Nat → Int32) → Option (Int32 × Int32 × (Nat → Int32) × (Nat → Int32))) : Int32 × Int32 × Int32 × Int32 × Int32 × (Nat → Int32) → Option (Int32 × Int32 × (Nat → Int32) × (Nat → Int32))
  | (v4_1, v3_2, v2_3, mo_at_4, mo_refused_5, mo_lengths_6) =>
  if mo_symbols ≤ v4_1 then
    k79 v3_2 v2_3 mo_at_4 mo_refused_5 mo_lengths_6
  else
    bd (f_Mo_nextLow mo_came mo_at_4 mo_refused_5 mo_in (4 : Int32)) fun (r_12, mo_at_13, mo_refused_14) =>
    gq v4_1 16 <|
    gq v4_1 16 <|
    jn (fun (s_15 : Int32) =>
        gq v4_1 16 <|
        jn (fun (s_16 : Int32) =>
            nl (v4_1 + (1 : Int32)) fun v4_17 =>
            self7 (v4_17, s_16, s_15, mo_at_13, mo_refused_14, (upd mo_lengths_6 (v4_1).toNatClampNeg r_12))) fun j72 =>
        if ((upd mo_lengths_6 (v4_1).toNatClampNeg r_12) (v4_1).toNatClampNeg) ≤ 0 then
          j72 v3_2
        else
          gq v4_1 16 <|
          j72 (v3_2 + ((32768 : Int32) >>> (((upd mo_lengths_6 (v4_1).toNatClampNeg r_12) (v4_1).toNatClampNeg) &&& 31)))) fun j45 =>
    if ((upd mo_lengths_6 (v4_1).toNatClampNeg r_12) (v4_1).toNatClampNeg) ≤ 0 then
      j45 v2_3
    else
      j45 (v2_3 + (1 : Int32))

def f_Mo_readCodes (mo_symbols : Int32) (mo_came : Int32) (mo_at : Int32) (mo_refused : Int32) (mo_lengths : (Nat → Int32)) (mo_in : (Nat → Int32)) (mo_codes : (Nat → Int32)) (p0 : Int32) : Option (Int32 × Int32 × (Nat → Int32) × (Nat → Int32)) :=
  lp (f_Mo_readCodes_L7 mo_symbols mo_came mo_in
    (fun (v3_7 : Int32) (v2_8 : Int32) (mo_at_9 : Int32) (mo_refused_10 : Int32) (mo_lengths_11 : (Nat → Int32)) =>
      jn (fun (s_18 : Int32) =>
          jn (fun (mo_refused_19 : Int32) =>
              bd (f_Mo_findCodes mo_symbols mo_lengths_11 mo_codes) fun mo_codes_20 =>
              some (mo_at_9, mo_refused_19, mo_lengths_11, mo_codes_20)) fun j129 =>
          if mo_refused_10 = 0 then
            if s_18 = 0 then
              bd (f_Mo_refuse mo_refused_10 (4 : Int32)) fun mo_refused_21 =>
              j129 mo_refused_21
            else
              j129 mo_refused_10
          else
            j129 mo_refused_10) fun j110 =>
      jn (fun (_ : Unit) =>
          j110 (1 : Int32)) fun j105 =>
      if v3_7 = (32768 : Int32) then
        j105 ()
      else
        jn (fun (_ : Unit) =>
            jn (fun (_ : Unit) =>
                j110 (0 : Int32)) fun j109 =>
            if v2_8 = 0 then
              if p0 = 0 then
                j105 ()
              else
                j109 ()
            else
              j109 ()) fun j97 =>
        if v2_8 = (1 : Int32) then
          if v3_7 = (16384 : Int32) then
            j105 ()
          else
            j97 ()
        else
          j97 ())) FU ((0 : Int32), (0 : Int32), (0 : Int32), mo_at, mo_refused, mo_lengths)


def f_Mo_nextName_L85 (mo_symbols : Int32) (mo_refused_7 : Int32) (mo_lengths : (Nat → Int32)) (v2_1 : Int32) (mo_codes : (Nat → Int32)) (v1_8 : Int32) (mo_at_6 : Int32) (mo_row : (Nat → Int32)) (k174 : Int32 → Option (Int32 × Int32 × Int32 × (Nat → Int32))) (self85 : Int32 × Int32 → Option (Int32 × Int32 × Int32 × (Nat → Int32))) : Int32 × Int32 → Option (Int32 × Int32 × Int32 × (Nat → Int32))
  | (v4_9, v3_10) =>
  if mo_symbols ≤ v4_9 then
    k174 v3_10
  else
    if mo_refused_7 = 0 then
      gq v4_9 16 <|
      jn (fun (_ : Unit) =>
          jn (fun (s_12 : Int32) =>
              nl (v4_9 + (1 : Int32)) fun v4_13 =>
              self85 (v4_13, s_12)) fun j167 =>
          jn (fun (_ : Unit) =>
              j167 (1 : Int32)) fun j162 =>
          if v3_10 = 0 then
            gq v4_9 16 <|
            jn (fun (_ : Unit) =>
                j167 (0 : Int32)) fun j166 =>
            if (mo_lengths (v4_9).toNatClampNeg) ≤ v2_1 then
              j166 ()
            else
              gq v4_9 16 <|
              gq v4_9 16 <|
              if ((mo_codes (v4_9).toNatClampNeg) >>> (((mo_lengths (v4_9).toNatClampNeg) - v2_1) &&& 31)) = v1_8 then
                j162 ()
              else
                j166 ()
          else
            j162 ()) fun j126 =>
      if (mo_lengths (v4_9).toNatClampNeg) = v2_1 then
        gq v4_9 16 <|
        if (mo_codes (v4_9).toNatClampNeg) = v1_8 then
          some (v4_9, mo_at_6, mo_refused_7, mo_row)
        else
          j126 ()
      else
        j126 ()
    else
      k174 v3_10

def f_Mo_nextName_L58 (mo_row : (Nat → Int32)) (mo_came : Int32) (mo_in : (Nat → Int32)) (mo_symbols : Int32) (mo_lengths : (Nat → Int32)) (mo_codes : (Nat → Int32)) (self58 : Int32 × Int32 × Int32 × Int32 → Option (Int32 × Int32 × Int32 × (Nat → Int32))) : Int32 × Int32 × Int32 × Int32 → Option (Int32 × Int32 × Int32 × (Nat → Int32))
  | (v2_1, v1_2, mo_at_3, mo_refused_4) =>
  if (16 : Int32) ≤ v2_1 then
    some ((0 : Int32), mo_at_3, mo_refused_4, mo_row)
  else
    if mo_refused_4 = 0 then
      bd (f_Mo_next mo_came mo_at_3 mo_refused_4 mo_in) fun (r_5, mo_at_6, mo_refused_7) =>
      nl (((2 : Int32) * v1_2) + r_5) fun v1_8 =>
      lp (f_Mo_nextName_L85 mo_symbols mo_refused_7 mo_lengths v2_1 mo_codes v1_8 mo_at_6 mo_row
        (fun (v3_11 : Int32) =>
          jn (fun (mo_refused_14 : Int32) =>
              nl (v2_1 + (1 : Int32)) fun v2_15 =>
              self58 (v2_15, v1_8, mo_at_6, mo_refused_14)) fun j183 =>
          if v3_11 = 0 then
            bd (f_Mo_refuse mo_refused_7 (5 : Int32)) fun mo_refused_16 =>
            j183 mo_refused_16
          else
            j183 mo_refused_7)) FU ((0 : Int32), (0 : Int32))
    else
      some ((0 : Int32), mo_at_3, mo_refused_4, mo_row)

def f_Mo_nextName (mo_kind : Int32) (mo_symbols : Int32) (mo_came : Int32) (mo_at : Int32) (mo_refused : Int32) (mo_in : (Nat → Int32)) (mo_lengths : (Nat → Int32)) (mo_codes : (Nat → Int32)) (mo_row : (Nat → Int32)) : Option (Int32 × Int32 × Int32 × (Nat → Int32)) :=
  if mo_kind = (1 : Int32) then
    bd (f_Mo_nextNumber mo_came mo_at mo_refused mo_in) fun (r_17, mo_at_18, mo_refused_19) =>
    jn (fun (mo_refused_20 : Int32) =>
        if mo_refused_20 ≤ 0 then
          bd (f_Mo_toFront mo_row r_17) fun mo_row_21 =>
          gq (0 : Int32) 16 <|
          some ((mo_row_21 ((0 : Int32)).toNatClampNeg), mo_at_18, mo_refused_20, mo_row_21)
        else
          some ((0 : Int32), mo_at_18, mo_refused_20, mo_row)) fun j33 =>
    if mo_refused_19 = 0 then
      if r_17 < mo_symbols then
        j33 mo_refused_19
      else
        bd (f_Mo_refuse mo_refused_19 (5 : Int32)) fun mo_refused_22 =>
        j33 mo_refused_22
    else
      j33 mo_refused_19
  else
    lp (f_Mo_nextName_L58 mo_row mo_came mo_in mo_symbols mo_lengths mo_codes) FU ((1 : Int32), (0 : Int32), mo_at, mo_refused)


def f_Mo_nextRuns_L82 (r_8 : Int32) (mo_refused_11 : Int32) (p0 : Int32) (mo_wide : (Nat → Int32)) (v5_3 : Int32) (k149 : Int32 → Int64 → Option (Int64 × Int32 × Int32)) (self82 : Int32 × Int32 × Int64 → Option (Int64 × Int32 × Int32)) : Int32 × Int32 × Int64 → Option (Int64 × Int32 × Int32)
  | (v9_12, v4_13, v2_14) =>
  if r_8 ≤ v9_12 then
    k149 v4_13 v2_14
  else
    if mo_refused_11 = 0 then
      gq p0 16 <|
      nz (mo_wide (p0).toNatClampNeg) <|
      nl (v4_13 / (mo_wide (p0).toNatClampNeg)) fun v10_17 =>
      gq p0 16 <|
      nz (mo_wide (p0).toNatClampNeg) <|
      nl (v4_13 - v4_13 / (mo_wide (p0).toNatClampNeg) * (mo_wide (p0).toNatClampNeg)) fun v11_18 =>
      jn (fun (s_19 : Int64) =>
          nl (v4_13 + (1 : Int32)) fun v4_20 =>
          nl (v9_12 + (1 : Int32)) fun v9_21 =>
          self82 (v9_21, v4_20, s_19)) fun j139 =>
      if v5_3 = 0 then
        j139 v2_14
      else
        j139 (v2_14 ||| ((1 : Int64) <<< (((((8 : Int32) * v10_17) + v11_18)).toInt64 &&& 63)))
    else
      k149 v4_13 v2_14

def f_Mo_nextRuns_L26 (v7_1 : Int32) (mo_came : Int32) (mo_in : (Nat → Int32)) (p0 : Int32) (mo_wide : (Nat → Int32)) (self26 : Int32 × Int32 × Int32 × Int64 × Int32 × Int32 → Option (Int64 × Int32 × Int32)) : Int32 × Int32 × Int32 × Int64 × Int32 × Int32 → Option (Int64 × Int32 × Int32)
  | (v6_2, v5_3, v4_4, v2_5, mo_at_6, mo_refused_7) =>
  if mo_refused_7 = 0 then
    if v7_1 ≤ v4_4 then
      some (v2_5, mo_at_6, mo_refused_7)
    else
      bd (f_Mo_nextNumber mo_came mo_at_6 mo_refused_7 mo_in) fun (r_8, mo_at_9, mo_refused_10) =>
      jn (fun (mo_refused_11 : Int32) =>
          lp (f_Mo_nextRuns_L82 r_8 mo_refused_11 p0 mo_wide v5_3
            (fun (v4_15 : Int32) (v2_16 : Int64) =>
              jn (fun (s_22 : Int32) =>
                  self26 ((0 : Int32), s_22, v4_15, v2_16, mo_at_9, mo_refused_11)) fun j159 =>
              if v5_3 = 0 then
                j159 (1 : Int32)
              else
                j159 (0 : Int32))) FU ((0 : Int32), v4_4, v2_5)) fun j79 =>
      if mo_refused_10 = 0 then
        jn (fun (_ : Unit) =>
            bd (f_Mo_refuse mo_refused_10 (7 : Int32)) fun mo_refused_23 =>
            j79 mo_refused_23) fun j73 =>
        if (v7_1 - v4_4) < r_8 then
          j73 ()
        else
          if r_8 = 0 then
            if v6_2 = 0 then
              j73 ()
            else
              j79 mo_refused_10
          else
            j79 mo_refused_10
      else
        j79 mo_refused_10
  else
    some (v2_5, mo_at_6, mo_refused_7)

def f_Mo_nextRuns (mo_came : Int32) (mo_at : Int32) (mo_refused : Int32) (mo_wide : (Nat → Int32)) (mo_high : (Nat → Int32)) (mo_in : (Nat → Int32)) (p0 : Int32) : Option (Int64 × Int32 × Int32) :=
  gq p0 16 <|
  gq p0 16 <|
  nl ((mo_wide (p0).toNatClampNeg) * (mo_high (p0).toNatClampNeg)) fun v7_1 =>
  lp (f_Mo_nextRuns_L26 v7_1 mo_came mo_in p0 mo_wide) FU ((1 : Int32), (0 : Int32), (0 : Int32), (0 : Int64), mo_at, mo_refused)


def f_Mo_readInstance (mo_kind : Int32) (mo_symbols : Int32) (mo_came : Int32) (mo_at : Int32) (mo_refused : Int32) (mo_readMany : Int32) (mo_readWays : (Nat → Int32)) (mo_in : (Nat → Int32)) (mo_lengths : (Nat → Int32)) (mo_codes : (Nat → Int32)) (mo_row : (Nat → Int32)) (mo_readSymbol : (Nat → Int32)) (mo_readX : (Nat → Int32)) (mo_readY : (Nat → Int32)) (mo_readDiffers : (Nat → Int64)) (mo_wide : (Nat → Int32)) (mo_high : (Nat → Int32)) (p0 : Int32) (p1 : Int32) : Option (Int32 × Int32 × Int32 × (Nat → Int32) × (Nat → Int32) × (Nat → Int32) × (Nat → Int32) × (Nat → Int64)) :=
  gq (2 : Int32) 4 <|
  gq (2 : Int32) 4 <|
  bd (f_Mo_nextLow mo_came mo_at mo_refused mo_in (mo_readWays ((2 : Int32)).toNatClampNeg)) fun (r_1, mo_at_2, mo_refused_3) =>
  nl ((p1 <<< ((mo_readWays ((2 : Int32)).toNatClampNeg) &&& 31)) + r_1) fun v3_4 =>
  bd (f_Mo_nextName mo_kind mo_symbols mo_came mo_at_2 mo_refused_3 mo_in mo_lengths mo_codes mo_row) fun (r_5, mo_at_6, mo_refused_7, mo_row_8) =>
  if mo_refused_7 ≤ 0 then
    gq (1 : Int32) 4 <|
    jn (fun (s_9 : Int32) =>
        gq (1 : Int32) 4 <|
        jn (fun (s_10 : Int32) =>
            gq (0 : Int32) 4 <|
            jn (fun (s_11 : Int32) (s_12 : Int32) =>
                nl (s_11 - s_12) fun v7_13 =>
                gq (0 : Int32) 4 <|
                jn (fun (s_14 : Int32) (s_15 : Int32) =>
                    nl (s_14 - s_15) fun v8_16 =>
                    bd (f_Mo_isIn v7_13 (-8 : Int32) (31 : Int32)) fun r_17 =>
                    jn (fun (_ : Unit) =>
                        bd (f_Mo_refuse mo_refused_7 (6 : Int32)) fun mo_refused_18 =>
                        some (mo_at_6, mo_refused_18, mo_readMany, mo_row_8, mo_readSymbol, mo_readX, mo_readY, mo_readDiffers)) fun j150 =>
                    if r_17 = 0 then
                      j150 ()
                    else
                      bd (f_Mo_isIn v8_16 (-8 : Int32) (31 : Int32)) fun r_19 =>
                      if r_19 = 0 then
                        j150 ()
                      else
                        gq mo_readMany 40 <|
                        gq mo_readMany 40 <|
                        gq mo_readMany 40 <|
                        bd (f_Mo_next mo_came mo_at_6 mo_refused_7 mo_in) fun (r_20, mo_at_21, mo_refused_22) =>
                        if r_20 = (1 : Int32) then
                          bd (f_Mo_nextRuns mo_came mo_at_21 mo_refused_22 mo_wide mo_high mo_in r_5) fun (r_24, mo_at_25, mo_refused_26) =>
                          gq mo_readMany 40 <|
                          nl (mo_readMany + (1 : Int32)) fun readMany_27 =>
                          some (mo_at_25, mo_refused_26, readMany_27, mo_row_8, (upd mo_readSymbol (mo_readMany).toNatClampNeg r_5), (upd mo_readX (mo_readMany).toNatClampNeg v7_13), (upd mo_readY (mo_readMany).toNatClampNeg v8_16), (vp_updL mo_readDiffers (mo_readMany).toNatClampNeg r_24))
                        else
                          gq mo_readMany 40 <|
                          nl (mo_readMany + (1 : Int32)) fun readMany_23 =>
                          some (mo_at_21, mo_refused_22, readMany_23, mo_row_8, (upd mo_readSymbol (mo_readMany).toNatClampNeg r_5), (upd mo_readX (mo_readMany).toNatClampNeg v7_13), (upd mo_readY (mo_readMany).toNatClampNeg v8_16), (vp_updL mo_readDiffers (mo_readMany).toNatClampNeg (0 : Int64)))) fun j123 =>
                if ((mo_readWays ((0 : Int32)).toNatClampNeg) - (mo_readWays ((0 : Int32)).toNatClampNeg) / (2 : Int32) * (2 : Int32)) = (1 : Int32) then
                  gq r_5 16 <|
                  j123 s_10 ((mo_high (r_5).toNatClampNeg) - (1 : Int32))
                else
                  j123 s_10 (0 : Int32)) fun j93 =>
            if (mo_readWays ((0 : Int32)).toNatClampNeg) < (2 : Int32) then
              j93 s_9 (0 : Int32)
            else
              gq r_5 16 <|
              j93 s_9 ((mo_wide (r_5).toNatClampNeg) - (1 : Int32))) fun j66 =>
        if (mo_readWays ((1 : Int32)).toNatClampNeg) = (1 : Int32) then
          j66 p0
        else
          j66 v3_4) fun j49 =>
    if (mo_readWays ((1 : Int32)).toNatClampNeg) = (1 : Int32) then
      j49 v3_4
    else
      j49 p0
  else
    some (mo_at_6, mo_refused_7, mo_readMany, mo_row_8, mo_readSymbol, mo_readX, mo_readY, mo_readDiffers)


def f_Mo_readAll_L187 (mo_kind : Int32) (mo_symbols : Int32) (mo_came : Int32) (mo_readWays : (Nat → Int32)) (r_5 : Int32) (r_8 : Int32) (r_11 : Int32) (r_14 : Int32) (mo_in : (Nat → Int32)) (mo_lengths_21 : (Nat → Int32)) (mo_codes_22 : (Nat → Int32)) (mo_wide : (Nat → Int32)) (mo_high : (Nat → Int32)) (s_45 : Int32) (r_1 : Int32) (k314 : Int32 → Int32 → Int32 → (Nat → Int32) → (Nat → Int32) → (Nat → Int32) → (Nat → Int32) → (Nat → Int64) → Option (Int32 × Int32 × Int32 × (Nat → Int32) × (Nat → Int32) × (Nat → Int32) × (Nat → Int32) × (Nat → Int32) × (Nat → Int32) × (Nat → Int32) × (Nat → Int64))) (self187 : Int32 × Int32 × Int32 × Int32 × Int32 × (Nat → Int32) × (Nat → Int32) × (Nat → Int32) × (Nat → Int32) × (Nat → Int64) → Option (Int32 × Int32 × Int32 × (Nat → Int32) × (Nat → Int32) × (Nat → Int32) × (Nat → Int32) × (Nat → Int32) × (Nat → Int32) × (Nat → Int32) × (Nat → Int64))) : Int32 × Int32 × Int32 × Int32 × Int32 × (Nat → Int32) × (Nat → Int32) × (Nat → Int32) × (Nat → Int32) × (Nat → Int64) → Option (Int32 × Int32 × Int32 × (Nat → Int32) × (Nat → Int32) × (Nat → Int32) × (Nat → Int32) × (Nat → Int32) × (Nat → Int32) × (Nat → Int32) × (Nat → Int64))
  | (v7_51, v6_52, mo_at_53, mo_refused_54, mo_readMany_55, mo_row_56, mo_readSymbol_57, mo_readX_58, mo_readY_59, mo_readDiffers_60) =>
  if v7_51 = 0 then
    k314 mo_at_53 mo_refused_54 mo_readMany_55 mo_row_56 mo_readSymbol_57 mo_readX_58 mo_readY_59 mo_readDiffers_60
  else
    bd (f_Mo_readInstance mo_kind mo_symbols mo_came mo_at_53 mo_refused_54 mo_readMany_55 (upd (upd (upd (upd mo_readWays ((2 : Int32)).toNatClampNeg r_5) ((1 : Int32)).toNatClampNeg r_8) ((0 : Int32)).toNatClampNeg r_11) ((3 : Int32)).toNatClampNeg r_14) mo_in mo_lengths_21 mo_codes_22 mo_row_56 mo_readSymbol_57 mo_readX_58 mo_readY_59 mo_readDiffers_60 mo_wide mo_high v6_52 s_45) fun (mo_at_69, mo_refused_70, mo_readMany_71, mo_row_72, mo_readSymbol_73, mo_readX_74, mo_readY_75, mo_readDiffers_76) =>
    jn (fun (s_77 : Int32) (mo_at_78 : Int32) (mo_refused_79 : Int32) =>
        jn (fun (v7_80 : Int32) (mo_refused_81 : Int32) =>
            if v7_80 = 0 then
              self187 (v7_80, v6_52, mo_at_78, mo_refused_81, mo_readMany_71, mo_row_72, mo_readSymbol_73, mo_readX_74, mo_readY_75, mo_readDiffers_76)
            else
              gq (mo_readMany_71 - (1 : Int32)) 40 <|
              nl (mo_readSymbol_73 ((mo_readMany_71 - (1 : Int32))).toNatClampNeg) fun v8_82 =>
              gq (1 : Int32) 4 <|
              jn (fun (s_83 : Int32) (s_84 : Int32) =>
                  bd (f_Mo_nextSigned mo_came mo_at_78 mo_refused_81 mo_in) fun (r_85, mo_at_86, mo_refused_87) =>
                  nl ((s_83 + s_84) + r_85) fun v6_88 =>
                  jn (fun (s_89 : Int32) =>
                      self187 (s_89, v6_88, mo_at_86, mo_refused_87, mo_readMany_71, mo_row_72, mo_readSymbol_73, mo_readX_74, mo_readY_75, mo_readDiffers_76)) fun j309 =>
                  if mo_refused_87 = 0 then
                    j309 (1 : Int32)
                  else
                    j309 (0 : Int32)) fun j289 =>
              if ((upd (upd (upd (upd mo_readWays ((2 : Int32)).toNatClampNeg r_5) ((1 : Int32)).toNatClampNeg r_8) ((0 : Int32)).toNatClampNeg r_11) ((3 : Int32)).toNatClampNeg r_14) ((1 : Int32)).toNatClampNeg) = (1 : Int32) then
                gq v8_82 16 <|
                j289 v6_52 (mo_high (v8_82).toNatClampNeg)
              else
                gq v8_82 16 <|
                j289 v6_52 (mo_wide (v8_82).toNatClampNeg)) fun j242 =>
        if s_77 = 0 then
          j242 s_77 mo_refused_79
        else
          if mo_readMany_71 = r_1 then
            bd (f_Mo_refuse mo_refused_79 (2 : Int32)) fun mo_refused_90 =>
            j242 (0 : Int32) mo_refused_90
          else
            j242 s_77 mo_refused_79) fun j219 =>
    jn (fun (mo_at_91 : Int32) (mo_refused_92 : Int32) =>
        j219 (0 : Int32) mo_at_91 mo_refused_92) fun j218 =>
    if mo_refused_70 = 0 then
      bd (f_Mo_next mo_came mo_at_69 mo_refused_70 mo_in) fun (r_93, mo_at_94, mo_refused_95) =>
      if r_93 = (1 : Int32) then
        j219 (1 : Int32) mo_at_94 mo_refused_95
      else
        j218 mo_at_94 mo_refused_95
    else
      j218 mo_at_69 mo_refused_70

def f_Mo_readAll_L118 (r_1 : Int32) (mo_came : Int32) (mo_in : (Nat → Int32)) (mo_kind : Int32) (mo_symbols : Int32) (mo_readWays : (Nat → Int32)) (r_5 : Int32) (r_8 : Int32) (r_11 : Int32) (r_14 : Int32) (mo_lengths_21 : (Nat → Int32)) (mo_codes_22 : (Nat → Int32)) (mo_wide : (Nat → Int32)) (mo_high : (Nat → Int32)) (k317 : Int32 → Int32 → Int32 → (Nat → Int32) → (Nat → Int32) → (Nat → Int32) → (Nat → Int32) → (Nat → Int64) → Option (Int32 × Int32 × Int32 × (Nat → Int32) × (Nat → Int32) × (Nat → Int32) × (Nat → Int32) × (Nat → Int32) × (Nat → Int32) × (Nat → Int32) × (Nat → Int64))) (self118 : Int32 × Int32 × Int32 × Int32 × Int32 × Int32 × (Nat → Int32) × (Nat → Int32) × (Nat → Int32) × (Nat → Int32) × (Nat → Int64) → Option (Int32 × Int32 × Int32 × (Nat → Int32) × (Nat → Int32) × (Nat → Int32) × (Nat → Int32) × (Nat → Int32) × (Nat → Int32) × (Nat → Int32) × (Nat → Int64))) : Int32 × Int32 × Int32 × Int32 × Int32 × Int32 × (Nat → Int32) × (Nat → Int32) × (Nat → Int32) × (Nat → Int32) × (Nat → Int64) → Option (Int32 × Int32 × Int32 × (Nat → Int32) × (Nat → Int32) × (Nat → Int32) × (Nat → Int32) × (Nat → Int32) × (Nat → Int32) × (Nat → Int32) × (Nat → Int64))
  | (v4_23, v3_24, v2_25, mo_at_26, mo_refused_27, mo_readMany_28, mo_row_29, mo_readSymbol_30, mo_readX_31, mo_readY_32, mo_readDiffers_33) =>
  if mo_refused_27 = 0 then
    if r_1 ≤ mo_readMany_28 then
      k317 mo_at_26 mo_refused_27 mo_readMany_28 mo_row_29 mo_readSymbol_30 mo_readX_31 mo_readY_32 mo_readDiffers_33
    else
      bd (f_Mo_nextNumber mo_came mo_at_26 mo_refused_27 mo_in) fun (r_42, mo_at_43, mo_refused_44) =>
      jn (fun (s_45 : Int32) =>
          bd (f_Mo_nextSigned mo_came mo_at_43 mo_refused_44 mo_in) fun (r_46, mo_at_47, mo_refused_48) =>
          nl (v3_24 + r_46) fun v6_49 =>
          jn (fun (s_50 : Int32) =>
              lp (f_Mo_readAll_L187 mo_kind mo_symbols mo_came mo_readWays r_5 r_8 r_11 r_14 mo_in mo_lengths_21 mo_codes_22 mo_wide mo_high s_45 r_1
                (fun (mo_at_61 : Int32) (mo_refused_62 : Int32) (mo_readMany_63 : Int32) (mo_row_64 : (Nat → Int32)) (mo_readSymbol_65 : (Nat → Int32)) (mo_readX_66 : (Nat → Int32)) (mo_readY_67 : (Nat → Int32)) (mo_readDiffers_68 : (Nat → Int64)) =>
                  self118 ((0 : Int32), v6_49, s_45, mo_at_61, mo_refused_62, mo_readMany_63, mo_row_64, mo_readSymbol_65, mo_readX_66, mo_readY_67, mo_readDiffers_68))) FU (s_50, v6_49, mo_at_47, mo_refused_48, mo_readMany_28, mo_row_29, mo_readSymbol_30, mo_readX_31, mo_readY_32, mo_readDiffers_33)) fun j185 =>
          if mo_refused_48 = 0 then
            j185 (1 : Int32)
          else
            j185 (0 : Int32)) fun j158 =>
      if v4_23 = 0 then
        j158 ((v2_25 + (1 : Int32)) + r_42)
      else
        j158 (r_42 - (16 : Int32))
  else
    k317 mo_at_26 mo_refused_27 mo_readMany_28 mo_row_29 mo_readSymbol_30 mo_readX_31 mo_readY_32 mo_readDiffers_33

def f_Mo_readAll_L317 (mo_came : Int32) (mo_in : (Nat → Int32)) (k351 : Int32 → Int32 → Option (Int32 × Int32 × Int32 × (Nat → Int32) × (Nat → Int32) × (Nat → Int32) × (Nat → Int32) × (Nat → Int32) × (Nat → Int32) × (Nat → Int32) × (Nat → Int64))) (self317 : Int32 × Int32 → Option (Int32 × Int32 × Int32 × (Nat → Int32) × (Nat → Int32) × (Nat → Int32) × (Nat → Int32) × (Nat → Int32) × (Nat → Int32) × (Nat → Int32) × (Nat → Int64))) : Int32 × Int32 → Option (Int32 × Int32 × Int32 × (Nat → Int32) × (Nat → Int32) × (Nat → Int32) × (Nat → Int32) × (Nat → Int32) × (Nat → Int32) × (Nat → Int32) × (Nat → Int64))
  | (mo_at_96, mo_refused_97) =>
  if mo_refused_97 = 0 then
    if (mo_at_96 - mo_at_96 / (8 : Int32) * (8 : Int32)) ≤ 0 then
      k351 mo_at_96 mo_refused_97
    else
      bd (f_Mo_next mo_came mo_at_96 mo_refused_97 mo_in) fun (r_100, mo_at_101, mo_refused_102) =>
      if r_100 = (1 : Int32) then
        bd (f_Mo_refuse mo_refused_102 (9 : Int32)) fun mo_refused_103 =>
        self317 (mo_at_101, mo_refused_103)
      else
        self317 (mo_at_101, mo_refused_102)
  else
    k351 mo_at_96 mo_refused_97

def f_Mo_readAll (mo_kind : Int32) (mo_symbols : Int32) (mo_came : Int32) (mo_at : Int32) (mo_refused : Int32) (mo_readMany : Int32) (mo_in : (Nat → Int32)) (mo_readWays : (Nat → Int32)) (mo_row : (Nat → Int32)) (mo_lengths : (Nat → Int32)) (mo_codes : (Nat → Int32)) (mo_readSymbol : (Nat → Int32)) (mo_readX : (Nat → Int32)) (mo_readY : (Nat → Int32)) (mo_readDiffers : (Nat → Int64)) (mo_wide : (Nat → Int32)) (mo_high : (Nat → Int32)) : Option (Int32 × Int32 × Int32 × (Nat → Int32) × (Nat → Int32) × (Nat → Int32) × (Nat → Int32) × (Nat → Int32) × (Nat → Int32) × (Nat → Int32) × (Nat → Int64)) :=
  bd (f_Mo_nextNumber mo_came mo_at mo_refused mo_in) fun (r_1, mo_at_2, mo_refused_3) =>
  jn (fun (mo_refused_4 : Int32) =>
      bd (f_Mo_nextLow mo_came mo_at_2 mo_refused_4 mo_in (2 : Int32)) fun (r_5, mo_at_6, mo_refused_7) =>
      gq (2 : Int32) 4 <|
      bd (f_Mo_next mo_came mo_at_6 mo_refused_7 mo_in) fun (r_8, mo_at_9, mo_refused_10) =>
      gq (1 : Int32) 4 <|
      bd (f_Mo_nextLow mo_came mo_at_9 mo_refused_10 mo_in (2 : Int32)) fun (r_11, mo_at_12, mo_refused_13) =>
      gq (0 : Int32) 4 <|
      bd (f_Mo_nextLow mo_came mo_at_12 mo_refused_13 mo_in (3 : Int32)) fun (r_14, mo_at_15, mo_refused_16) =>
      gq (3 : Int32) 4 <|
      jn (fun (mo_refused_17 : Int32) =>
          bd (f_Mo_beginRow mo_row) fun mo_row_18 =>
          jn (fun (mo_at_19 : Int32) (mo_refused_20 : Int32) (mo_lengths_21 : (Nat → Int32)) (mo_codes_22 : (Nat → Int32)) =>
              lp (f_Mo_readAll_L118 r_1 mo_came mo_in mo_kind mo_symbols mo_readWays r_5 r_8 r_11 r_14 mo_lengths_21 mo_codes_22 mo_wide mo_high
                (fun (mo_at_34 : Int32) (mo_refused_35 : Int32) (mo_readMany_36 : Int32) (mo_row_37 : (Nat → Int32)) (mo_readSymbol_38 : (Nat → Int32)) (mo_readX_39 : (Nat → Int32)) (mo_readY_40 : (Nat → Int32)) (mo_readDiffers_41 : (Nat → Int64)) =>
                  lp (f_Mo_readAll_L317 mo_came mo_in
                    (fun (mo_at_98 : Int32) (mo_refused_99 : Int32) =>
                      if mo_refused_99 = 0 then
                        if ((8 : Int32) * mo_came) ≤ mo_at_98 then
                          some (mo_at_98, mo_refused_99, mo_readMany_36, (upd (upd (upd (upd mo_readWays ((2 : Int32)).toNatClampNeg r_5) ((1 : Int32)).toNatClampNeg r_8) ((0 : Int32)).toNatClampNeg r_11) ((3 : Int32)).toNatClampNeg r_14), mo_row_37, mo_lengths_21, mo_codes_22, mo_readSymbol_38, mo_readX_39, mo_readY_40, mo_readDiffers_41)
                        else
                          bd (f_Mo_refuse mo_refused_99 (9 : Int32)) fun mo_refused_104 =>
                          some (mo_at_98, mo_refused_104, mo_readMany_36, (upd (upd (upd (upd mo_readWays ((2 : Int32)).toNatClampNeg r_5) ((1 : Int32)).toNatClampNeg r_8) ((0 : Int32)).toNatClampNeg r_11) ((3 : Int32)).toNatClampNeg r_14), mo_row_37, mo_lengths_21, mo_codes_22, mo_readSymbol_38, mo_readX_39, mo_readY_40, mo_readDiffers_41)
                      else
                        some (mo_at_98, mo_refused_99, mo_readMany_36, (upd (upd (upd (upd mo_readWays ((2 : Int32)).toNatClampNeg r_5) ((1 : Int32)).toNatClampNeg r_8) ((0 : Int32)).toNatClampNeg r_11) ((3 : Int32)).toNatClampNeg r_14), mo_row_37, mo_lengths_21, mo_codes_22, mo_readSymbol_38, mo_readX_39, mo_readY_40, mo_readDiffers_41))) FU (mo_at_34, mo_refused_35))) FU ((1 : Int32), (0 : Int32), (0 : Int32), mo_at_19, mo_refused_20, mo_readMany, mo_row_18, mo_readSymbol, mo_readX, mo_readY, mo_readDiffers)) fun j111 =>
          if mo_kind = 0 then
            if mo_refused_17 = 0 then
              bd (f_Mo_readCodes mo_symbols mo_came mo_at_15 mo_refused_17 mo_lengths mo_in mo_codes r_1) fun (mo_at_105, mo_refused_106, mo_lengths_107, mo_codes_108) =>
              j111 mo_at_105 mo_refused_106 mo_lengths_107 mo_codes_108
            else
              j111 mo_at_15 mo_refused_17 mo_lengths mo_codes
          else
            j111 mo_at_15 mo_refused_17 mo_lengths mo_codes) fun j88 =>
      if mo_refused_16 = 0 then
        gq (3 : Int32) 4 <|
        if ((upd (upd (upd (upd mo_readWays ((2 : Int32)).toNatClampNeg r_5) ((1 : Int32)).toNatClampNeg r_8) ((0 : Int32)).toNatClampNeg r_11) ((3 : Int32)).toNatClampNeg r_14) ((3 : Int32)).toNatClampNeg) ≤ (4 : Int32) then
          j88 mo_refused_16
        else
          bd (f_Mo_refuse mo_refused_16 (3 : Int32)) fun mo_refused_109 =>
          j88 mo_refused_109
      else
        j88 mo_refused_16) fun j23 =>
  if mo_refused_3 = 0 then
    if r_1 ≤ (40 : Int32) then
      j23 mo_refused_3
    else
      bd (f_Mo_refuse mo_refused_3 (2 : Int32)) fun mo_refused_110 =>
      j23 mo_refused_110
  else
    j23 mo_refused_3


def f_Mo_read_L72 (mo_readMany_3 : Int32) (mo_readSymbol_8 : (Nat → Int32)) (mo_readX_9 : (Nat → Int32)) (mo_readY_10 : (Nat → Int32)) (mo_readDiffers_11 : (Nat → Int64)) (k134 : (Nat → Int32) → (Nat → Int32) → (Nat → Int32) → (Nat → Int64) → Option (Int32 × Int32 × Int32 × Int32 × Int32 × Int32 × Int32 × Int32 × (Nat → Int32) × (Nat → Int32) × (Nat → Int32) × (Nat → Int32) × (Nat → Int32) × (Nat → Int32) × (Nat → Int32) × (Nat → Int64) × (Nat → Int32) × (Nat → Int32) × (Nat → Int32) × (Nat → Int64) × (Nat → Int32))) (self72 : Int32 × (Nat → Int32) × (Nat → Int32) × (Nat → Int32) × (Nat → Int64) → Option (Int32 × Int32 × Int32 × Int32 × Int32 × Int32 × Int32 × Int32 × (Nat → Int32) × (Nat → Int32) × (Nat → Int32) × (Nat → Int32) × (Nat → Int32) × (Nat → Int32) × (Nat → Int32) × (Nat → Int64) × (Nat → Int32) × (Nat → Int32) × (Nat → Int32) × (Nat → Int64) × (Nat → Int32))) : Int32 × (Nat → Int32) × (Nat → Int32) × (Nat → Int32) × (Nat → Int64) → Option (Int32 × Int32 × Int32 × Int32 × Int32 × Int32 × Int32 × Int32 × (Nat → Int32) × (Nat → Int32) × (Nat → Int32) × (Nat → Int32) × (Nat → Int32) × (Nat → Int32) × (Nat → Int32) × (Nat → Int64) × (Nat → Int32) × (Nat → Int32) × (Nat → Int32) × (Nat → Int64) × (Nat → Int32))
  | (v1_13, mo_symbolOf_14, mo_xs_15, mo_ys_16, mo_differs_17) =>
  if mo_readMany_3 ≤ v1_13 then
    k134 mo_symbolOf_14 mo_xs_15 mo_ys_16 mo_differs_17
  else
    gq v1_13 40 <|
    nl (mo_readSymbol_8 (v1_13).toNatClampNeg) fun w_22 =>
    gq v1_13 40 <|
    gq v1_13 40 <|
    nl (mo_readX_9 (v1_13).toNatClampNeg) fun w_23 =>
    gq v1_13 40 <|
    gq v1_13 40 <|
    nl (mo_readY_10 (v1_13).toNatClampNeg) fun w_24 =>
    gq v1_13 40 <|
    gq v1_13 40 <|
    nl (mo_readDiffers_11 (v1_13).toNatClampNeg) fun w_25 =>
    gq v1_13 40 <|
    nl (v1_13 + (1 : Int32)) fun v1_26 =>
    self72 (v1_26, (upd mo_symbolOf_14 (v1_13).toNatClampNeg w_22), (upd mo_xs_15 (v1_13).toNatClampNeg w_23), (upd mo_ys_16 (v1_13).toNatClampNeg w_24), (vp_updL mo_differs_17 (v1_13).toNatClampNeg w_25))

def f_Mo_read_L136 (mo_readMany_3 : Int32) (mo_at_1 : Int32) (mo_refused_2 : Int32) (s_12 : Int32) (mo_readWays_4 : (Nat → Int32)) (mo_row_5 : (Nat → Int32)) (mo_lengths_6 : (Nat → Int32)) (mo_codes_7 : (Nat → Int32)) (mo_readSymbol_8 : (Nat → Int32)) (mo_readX_9 : (Nat → Int32)) (mo_readY_10 : (Nat → Int32)) (mo_readDiffers_11 : (Nat → Int64)) (mo_symbolOf_18 : (Nat → Int32)) (mo_xs_19 : (Nat → Int32)) (mo_ys_20 : (Nat → Int32)) (mo_differs_21 : (Nat → Int64)) (self136 : Int32 × (Nat → Int32) → Option (Int32 × Int32 × Int32 × Int32 × Int32 × Int32 × Int32 × Int32 × (Nat → Int32) × (Nat → Int32) × (Nat → Int32) × (Nat → Int32) × (Nat → Int32) × (Nat → Int32) × (Nat → Int32) × (Nat → Int64) × (Nat → Int32) × (Nat → Int32) × (Nat → Int32) × (Nat → Int64) × (Nat → Int32))) : Int32 × (Nat → Int32) → Option (Int32 × Int32 × Int32 × Int32 × Int32 × Int32 × Int32 × Int32 × (Nat → Int32) × (Nat → Int32) × (Nat → Int32) × (Nat → Int32) × (Nat → Int32) × (Nat → Int32) × (Nat → Int32) × (Nat → Int64) × (Nat → Int32) × (Nat → Int32) × (Nat → Int32) × (Nat → Int64) × (Nat → Int32))
  | (v1_27, mo_ways_28) =>
  if (4 : Int32) ≤ v1_27 then
    some (mo_readMany_3, (0 : Int32), mo_readMany_3, (0 : Int32), mo_at_1, mo_refused_2, s_12, mo_readMany_3, mo_readWays_4, mo_row_5, mo_lengths_6, mo_codes_7, mo_readSymbol_8, mo_readX_9, mo_readY_10, mo_readDiffers_11, mo_symbolOf_18, mo_xs_19, mo_ys_20, mo_differs_21, mo_ways_28)
  else
    gq v1_27 4 <|
    nl (mo_readWays_4 (v1_27).toNatClampNeg) fun w_29 =>
    gq v1_27 4 <|
    nl (v1_27 + (1 : Int32)) fun v1_30 =>
    self136 (v1_30, (upd mo_ways_28 (v1_27).toNatClampNeg w_29))

def f_Mo_read (mo_kind : Int32) (mo_symbols : Int32) (mo_instances : Int32) (mo_came : Int32) (mo_in : (Nat → Int32)) (mo_readWays : (Nat → Int32)) (mo_row : (Nat → Int32)) (mo_lengths : (Nat → Int32)) (mo_codes : (Nat → Int32)) (mo_readSymbol : (Nat → Int32)) (mo_readX : (Nat → Int32)) (mo_readY : (Nat → Int32)) (mo_readDiffers : (Nat → Int64)) (mo_wide : (Nat → Int32)) (mo_high : (Nat → Int32)) (mo_symbolOf : (Nat → Int32)) (mo_xs : (Nat → Int32)) (mo_ys : (Nat → Int32)) (mo_differs : (Nat → Int64)) (mo_ways : (Nat → Int32)) : Option (Int32 × Int32 × Int32 × Int32 × Int32 × Int32 × Int32 × Int32 × (Nat → Int32) × (Nat → Int32) × (Nat → Int32) × (Nat → Int32) × (Nat → Int32) × (Nat → Int32) × (Nat → Int32) × (Nat → Int64) × (Nat → Int32) × (Nat → Int32) × (Nat → Int32) × (Nat → Int64) × (Nat → Int32)) :=
  bd (f_Mo_readAll mo_kind mo_symbols mo_came (0 : Int32) (0 : Int32) (0 : Int32) mo_in mo_readWays mo_row mo_lengths mo_codes mo_readSymbol mo_readX mo_readY mo_readDiffers mo_wide mo_high) fun (mo_at_1, mo_refused_2, mo_readMany_3, mo_readWays_4, mo_row_5, mo_lengths_6, mo_codes_7, mo_readSymbol_8, mo_readX_9, mo_readY_10, mo_readDiffers_11) =>
  jn (fun (s_12 : Int32) =>
      if mo_refused_2 ≤ 0 then
        lp (f_Mo_read_L72 mo_readMany_3 mo_readSymbol_8 mo_readX_9 mo_readY_10 mo_readDiffers_11
          (fun (mo_symbolOf_18 : (Nat → Int32)) (mo_xs_19 : (Nat → Int32)) (mo_ys_20 : (Nat → Int32)) (mo_differs_21 : (Nat → Int64)) =>
            lp (f_Mo_read_L136 mo_readMany_3 mo_at_1 mo_refused_2 s_12 mo_readWays_4 mo_row_5 mo_lengths_6 mo_codes_7 mo_readSymbol_8 mo_readX_9 mo_readY_10 mo_readDiffers_11 mo_symbolOf_18 mo_xs_19 mo_ys_20 mo_differs_21) FU ((0 : Int32), mo_ways))) FU ((0 : Int32), mo_symbolOf, mo_xs, mo_ys, mo_differs)
      else
        some (((-1 : Int32) - mo_refused_2), (0 : Int32), mo_instances, (0 : Int32), mo_at_1, mo_refused_2, s_12, mo_readMany_3, mo_readWays_4, mo_row_5, mo_lengths_6, mo_codes_7, mo_readSymbol_8, mo_readX_9, mo_readY_10, mo_readDiffers_11, mo_symbolOf, mo_xs, mo_ys, mo_differs, mo_ways)) fun j45 =>
  if mo_refused_2 ≤ 0 then
    j45 (-1 : Int32)
  else
    j45 mo_at_1


def f_Mo_place_L107 (s_2 : Int32) (p0 : Int32) (mo_differs : (Nat → Int64)) (self107 : Int32 × Int32 → Option (Int32 × Int32)) : Int32 × Int32 → Option (Int32 × Int32)
  | (v4_3, v3_4) =>
  if (64 : Int32) ≤ v4_3 then
    some (v3_4, s_2)
  else
    gq p0 40 <|
    jn (fun (s_5 : Int32) =>
        nl (v4_3 + (1 : Int32)) fun v4_6 =>
        self107 (v4_6, s_5)) fun j137 =>
    if (lg_cmp (((mo_differs (p0).toNatClampNeg) >>> ((v4_3).toInt64 &&& 63)) &&& (1 : Int64)) (1 : Int64)) = 0 then
      j137 (v3_4 + (1 : Int32))
    else
      j137 v3_4

def f_Mo_place (mo_instances : Int32) (mo_differs : (Nat → Int64)) (mo_ways : (Nat → Int32)) (mo_ys : (Nat → Int32)) (mo_high : (Nat → Int32)) (mo_symbolOf : (Nat → Int32)) (mo_xs : (Nat → Int32)) (mo_wide : (Nat → Int32)) (p0 : Int32) (p1 : Int32) : Option (Int32 × Int32) :=
  bd (f_Mo_isInstance mo_instances p0) fun r_1 =>
  jn (fun (s_2 : Int32) =>
      if s_2 ≤ 0 then
        if p1 = 0 then
          gq p0 40 <|
          some ((mo_symbolOf (p0).toNatClampNeg), s_2)
        else
          if p1 = (1 : Int32) then
            gq p0 40 <|
            some ((mo_xs (p0).toNatClampNeg), s_2)
          else
            if p1 = (2 : Int32) then
              gq p0 40 <|
              some ((mo_ys (p0).toNatClampNeg), s_2)
            else
              if p1 = (3 : Int32) then
                bd (f_Mo_sOf mo_ways mo_xs mo_wide mo_symbolOf mo_ys mo_high p0) fun r_9 =>
                some (r_9, s_2)
              else
                if p1 = (4 : Int32) then
                  bd (f_Mo_tOf mo_ways mo_ys mo_high mo_symbolOf mo_xs mo_wide p0) fun r_8 =>
                  some (r_8, s_2)
                else
                  if p1 = (5 : Int32) then
                    bd (f_Mo_stripOf mo_ways mo_ys mo_high mo_symbolOf mo_xs mo_wide p0) fun r_7 =>
                    some (r_7, s_2)
                  else
                    if p1 = (6 : Int32) then
                      lp (f_Mo_place_L107 s_2 p0 mo_differs) FU ((0 : Int32), (0 : Int32))
                    else
                      some ((-1 : Int32), s_2)
      else
        some ((0 : Int32), s_2)) fun j14 =>
  if r_1 = 0 then
    j14 (1 : Int32)
  else
    j14 (0 : Int32)


def f_Mo_told (mo_width : Int32) (mo_height : Int32) (mo_kind : Int32) (mo_symbols : Int32) (mo_instances : Int32) (mo_toldBytes : Int32) (mo_came : Int32) (mo_place : Int32) (p0 : Int32) : Option (Int32 × Int32) :=
  if p0 = 0 then
    some (mo_width, (0 : Int32))
  else
    if p0 = (1 : Int32) then
      some (mo_height, (0 : Int32))
    else
      if p0 = (2 : Int32) then
        some (mo_kind, (0 : Int32))
      else
        if p0 = (3 : Int32) then
          some (mo_symbols, (0 : Int32))
        else
          if p0 = (4 : Int32) then
            some (mo_instances, (0 : Int32))
          else
            if p0 = (5 : Int32) then
              some (mo_toldBytes, (0 : Int32))
            else
              if p0 = (6 : Int32) then
                some (mo_came, (0 : Int32))
              else
                if p0 = (7 : Int32) then
                  some (mo_place, (0 : Int32))
                else
                  some ((-1 : Int32), (0 : Int32))


def f_Mo_clear_L32 (k50 : (Nat → Int32) → Option (Int32 × Int32 × Int32 × Int32 × Int32 × Int32 × (Nat → Int32) × (Nat → Int32))) (self32 : Int32 × (Nat → Int32) → Option (Int32 × Int32 × Int32 × Int32 × Int32 × Int32 × (Nat → Int32) × (Nat → Int32))) : Int32 × (Nat → Int32) → Option (Int32 × Int32 × Int32 × Int32 × Int32 × Int32 × (Nat → Int32) × (Nat → Int32))
  | (v1_1, mo_ways_2) =>
  if (4 : Int32) ≤ v1_1 then
    k50 mo_ways_2
  else
    gq v1_1 4 <|
    nl (v1_1 + (1 : Int32)) fun v1_4 =>
    self32 (v1_4, (upd mo_ways_2 (v1_1).toNatClampNeg (0 : Int32)))

def f_Mo_clear_L52 (mo_ways_3 : (Nat → Int32)) (self52 : Int32 × (Nat → Int32) → Option (Int32 × Int32 × Int32 × Int32 × Int32 × Int32 × (Nat → Int32) × (Nat → Int32))) : Int32 × (Nat → Int32) → Option (Int32 × Int32 × Int32 × Int32 × Int32 × Int32 × (Nat → Int32) × (Nat → Int32))
  | (v1_5, mo_page_6) =>
  if (576 : Int32) ≤ v1_5 then
    some ((0 : Int32), (0 : Int32), (0 : Int32), (0 : Int32), (0 : Int32), (-1 : Int32), mo_ways_3, mo_page_6)
  else
    gq v1_5 576 <|
    nl (v1_5 + (1 : Int32)) fun v1_7 =>
    self52 (v1_7, (upd mo_page_6 (v1_5).toNatClampNeg (vp_nar .boolean (0 : Int32))))

def f_Mo_clear (mo_ways : (Nat → Int32)) (mo_page : (Nat → Int32)) : Option (Int32 × Int32 × Int32 × Int32 × Int32 × Int32 × (Nat → Int32) × (Nat → Int32)) :=
  lp (f_Mo_clear_L32
    (fun (mo_ways_3 : (Nat → Int32)) =>
      lp (f_Mo_clear_L52 mo_ways_3) FU ((0 : Int32), mo_page))) FU ((0 : Int32), mo_ways)

