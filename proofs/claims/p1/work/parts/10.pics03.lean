def m_X9_isLet_14 (x1 : Int) (x2 : Int) (m_n : Int) (m_breaks : Nat → Int) : Option (Int) :=
  gd (inI x2) <|
  gd (inI m_n) <|
  if m_n ≤ x2 then
    m_X9_isLet_34 x1 x2 m_n m_breaks
  else
    gd (0 ≤ x2 ∧ x2 < 37) <|
    gd (inI (m_breaks (Int.toNat x2))) <|
    if (m_breaks (Int.toNat x2)) = 2 then
      some 0
    else
      m_X9_isLet_34 x1 x2 m_n m_breaks
def m_X9_isLet (x1 : Int) (x2 : Int) (m_n : Int) (m_breaks : Nat → Int) : Option (Int) :=
  gd (inI x1) <|
  if x1 ≤ 0 then
    m_X9_isLet_14 x1 x2 m_n m_breaks
  else
    gd (0 ≤ x1 ∧ x1 < 37) <|
    gd (inI (m_breaks (Int.toNat x1))) <|
    if (m_breaks (Int.toNat x1)) = 2 then
      some 0
    else
      m_X9_isLet_14 x1 x2 m_n m_breaks
def m_X9_isAllowed_11 (x1 : Int) (x2 : Int) (x3 : Int) (x4 : Int) (x5 : Int) (x6 : Int) (m_n : Int) (m_fixedMany : Int) (m_breaks : Nat → Int) (m_fixedFrom : Nat → Int) (m_fixedTo : Nat → Int) (m_fixedWord : Nat → Int) (m_fixedEnding : Nat → Int) : Option (Nat × (Int × Int)) :=
  gd (inI x6) <|
  gd (inI m_fixedMany) <|
  if m_fixedMany ≤ x6 then
    some (1, (x5, x6))
  else
    gd (inI x5) <|
    if x5 = 0 then
      some (1, (x5, x6))
    else
      gd (0 ≤ x6 ∧ x6 < 36) <|
      gd (inI (m_fixedTo (Int.toNat x6))) <|
      gd (inI x1) <|
      if (m_fixedTo (Int.toNat x6)) ≤ x1 then
        vl (x6 + 1) fun x6_102 =>
        some (0, (x5, x6_102))
      else
        gd (0 ≤ x6 ∧ x6 < 36) <|
        gd (inI (m_fixedFrom (Int.toNat x6))) <|
        gd (inI x2) <|
        if (m_fixedFrom (Int.toNat x6)) < x2 then
          gd (0 ≤ x6 ∧ x6 < 36) <|
          if (m_fixedFrom (Int.toNat x6)) = x1 then
            gd (0 ≤ x6 ∧ x6 < 36) <|
            if (m_fixedTo (Int.toNat x6)) = x2 then
              gd (0 ≤ x6 ∧ x6 < 36) <|
              gd (inI (m_fixedWord (Int.toNat x6))) <|
              gd (inI x3) <|
              if (m_fixedWord (Int.toNat x6)) = x3 then
                gd (0 ≤ x6 ∧ x6 < 36) <|
                gd (inI (m_fixedEnding (Int.toNat x6))) <|
                gd (inI x4) <|
                if (m_fixedEnding (Int.toNat x6)) = x4 then
                  vl (x6 + 1) fun x6_102_v6 =>
                  some (0, (1, x6_102_v6))
                else
                  vl (x6 + 1) fun x6_102_v5 =>
                  some (0, (0, x6_102_v5))
              else
                vl (x6 + 1) fun x6_102_v4 =>
                some (0, (0, x6_102_v4))
            else
              vl (x6 + 1) fun x6_102_v3 =>
              some (0, (0, x6_102_v3))
          else
            vl (x6 + 1) fun x6_102_v2 =>
            some (0, (0, x6_102_v2))
        else
          vl (x6 + 1) fun x6_102_v7 =>
          some (0, (x5, x6_102_v7))
def m_X9_isAllowed (x1 : Int) (x2 : Int) (x3 : Int) (x4 : Int) (m_n : Int) (m_fixedMany : Int) (m_breaks : Nat → Int) (m_fixedFrom : Nat → Int) (m_fixedTo : Nat → Int) (m_fixedWord : Nat → Int) (m_fixedEnding : Nat → Int) : Option (Int) :=
  (m_X9_isLet x1 x2 m_n m_breaks).bind fun r_3 =>
  (zloop (fun a => m_X9_isAllowed_11 x1 x2 x3 x4 a.1 a.2 m_n m_fixedMany m_breaks m_fixedFrom m_fixedTo m_fixedWord m_fixedEnding) FU (r_3, 0)).bind fun (t_11, x5_11, x6_11) =>
  gd (x5_11 = 0 ∨ x5_11 = 1) <|
  some x5_11
def m_X9_at (x0 : Int) (x1 : Int) : Option (Int) :=
  some ((10 * x0) + x1)
def m_X9_onePart_77 (x1 : Int) (x3 : Int) (x7 : Int) (x8 : Int) (m_kind : Nat → Int) (m_itsClass : Nat → Int) (m_count : Nat → Int) (m_endClass : Nat → Int) (m_endPrice : Nat → Int) (m_guess : Int) (m_base : Int) (m_steps : Nat → Int) (m_pairs : Nat → Int) (m_n : Int) (m_fixedMany : Int) (m_breaks : Nat → Int) (m_fixedFrom : Nat → Int) (m_fixedTo : Nat → Int) (m_fixedWord : Nat → Int) (m_fixedEnding : Nat → Int) (m_table : Nat → Int) (m_rest : Nat → Int) (m_parts : Int) (m_partFrom : Nat → Int) (m_partTo : Nat → Int) (m_partWord : Nat → Int) (m_partEnding : Nat → Int) (m_found : Int) (m_from0 : Int) (m_kind0 : Int) : Option (Nat × (Int × (Nat → Int))) :=
  gd (inI x8) <|
  if 9 < x8 then
    some (1, (x8, m_rest))
  else
    (m_X9_at x1 x8).bind fun r_91 =>
    (m_X9_at x1 x8).bind fun r_101 =>
    gd (0 ≤ r_101 ∧ r_101 < 370) <|
    (m_X9_kindOf x3 m_kind).bind fun r_112 =>
    (m_X9_stepOf x8 r_112 m_steps m_pairs).bind fun r_115 =>
    gd (inI (m_rest (Int.toNat r_101))) <|
    gd (inI (x7 + r_115)) <|
    gd (0 ≤ r_91 ∧ r_91 < 370) <|
    vl (uz m_rest (Int.toNat r_91) (min (m_rest (Int.toNat r_101)) (x7 + r_115))) fun m_rest_122 =>
    vl (x8 + 1) fun x8_123 =>
    some (0, (x8_123, m_rest_122))
def m_X9_onePart (x1 : Int) (x2 : Int) (x3 : Int) (x4 : Int) (x5 : Int) (m_kind : Nat → Int) (m_itsClass : Nat → Int) (m_count : Nat → Int) (m_endClass : Nat → Int) (m_endPrice : Nat → Int) (m_guess : Int) (m_base : Int) (m_steps : Nat → Int) (m_pairs : Nat → Int) (m_n : Int) (m_fixedMany : Int) (m_breaks : Nat → Int) (m_fixedFrom : Nat → Int) (m_fixedTo : Nat → Int) (m_fixedWord : Nat → Int) (m_fixedEnding : Nat → Int) (m_table : Nat → Int) (m_rest : Nat → Int) (m_parts : Int) (m_partFrom : Nat → Int) (m_partTo : Nat → Int) (m_partWord : Nat → Int) (m_partEnding : Nat → Int) (m_found : Int) (m_from0 : Int) (m_kind0 : Int) : Option ((Nat → Int) × (Nat → Int) × (Nat → Int) × (Nat → Int) × (Nat → Int) × Int) :=
  (m_X9_costOf x1 x2 x3 x4 m_itsClass m_count m_endClass m_endPrice m_guess m_base m_table).bind fun r_6 =>
  gd (inI r_6) <|
  if 134217728 ≤ r_6 then
    some (m_rest, m_partFrom, m_partTo, m_partWord, m_partEnding, m_found)
  else
    (m_X9_kindOf x3 m_kind).bind fun r_25 =>
    (m_X9_at x2 r_25).bind fun r_28 =>
    gd (0 ≤ r_28 ∧ r_28 < 370) <|
    gd (inI (m_rest (Int.toNat r_28))) <|
    if 134217728 ≤ (m_rest (Int.toNat r_28)) then
      some (m_rest, m_partFrom, m_partTo, m_partWord, m_partEnding, m_found)
    else
      (m_X9_isAllowed x1 x2 x3 x4 m_n m_fixedMany m_breaks m_fixedFrom m_fixedTo m_fixedWord m_fixedEnding).bind fun r_43 =>
      gd (inI r_43) <|
      if r_43 = 0 then
        some (m_rest, m_partFrom, m_partTo, m_partWord, m_partEnding, m_found)
      else
        (m_X9_kindOf x3 m_kind).bind fun r_59 =>
        (m_X9_at x2 r_59).bind fun r_62 =>
        gd (0 ≤ r_62 ∧ r_62 < 370) <|
        vl (r_6 + (m_rest (Int.toNat r_62))) fun x7_67 =>
        gd (inI x5) <|
        if x5 = 0 then
          (zloop (fun a => m_X9_onePart_77 x1 x3 x7_67 a.1 m_kind m_itsClass m_count m_endClass m_endPrice m_guess m_base m_steps m_pairs m_n m_fixedMany m_breaks m_fixedFrom m_fixedTo m_fixedWord m_fixedEnding m_table a.2 m_parts m_partFrom m_partTo m_partWord m_partEnding m_found m_from0 m_kind0) FU (0, m_rest)).bind fun (t_77, x8_77, m_rest_77) =>
          some (m_rest_77, m_partFrom, m_partTo, m_partWord, m_partEnding, m_found)
        else
          gd (inI m_found) <|
          if m_found = 0 then
            (m_X9_kindOf x3 m_kind).bind fun r_146 =>
            (m_X9_stepOf m_kind0 r_146 m_steps m_pairs).bind fun r_149 =>
            (m_X9_at m_from0 m_kind0).bind fun r_165 =>
            gd (0 ≤ r_165 ∧ r_165 < 370) <|
            gd (inI (x7_67 + r_149)) <|
            gd (inI (m_rest (Int.toNat r_165))) <|
            if (x7_67 + r_149) = (m_rest (Int.toNat r_165)) then
              gd (0 ≤ m_parts ∧ m_parts < 36) <|
              vl (uz m_partFrom (Int.toNat m_parts) x1) fun m_partFrom_187 =>
              gd (0 ≤ m_parts ∧ m_parts < 36) <|
              vl (uz m_partTo (Int.toNat m_parts) x2) fun m_partTo_197 =>
              gd (0 ≤ m_parts ∧ m_parts < 36) <|
              vl (uz m_partWord (Int.toNat m_parts) x3) fun m_partWord_207 =>
              gd (0 ≤ m_parts ∧ m_parts < 36) <|
              vl (uz m_partEnding (Int.toNat m_parts) x4) fun m_partEnding_218 =>
              some (m_rest, m_partFrom_187, m_partTo_197, m_partWord_207, m_partEnding_218, 1)
            else
              some (m_rest, m_partFrom, m_partTo, m_partWord, m_partEnding, m_found)
          else
            some (m_rest, m_partFrom, m_partTo, m_partWord, m_partEnding, m_found)
def m_X9_eachFrom_52 (x1 : Int) (x2 : Int) (x3 : Int) (x4 : Int) (x5 : Int) (m_kind : Nat → Int) (m_itsClass : Nat → Int) (m_count : Nat → Int) (m_endClass : Nat → Int) (m_endPrice : Nat → Int) (m_words : Int) (m_endings : Int) (m_guess : Int) (m_base : Int) (m_steps : Nat → Int) (m_pairs : Nat → Int) (m_n : Int) (m_fixedMany : Int) (m_breaks : Nat → Int) (m_fixedFrom : Nat → Int) (m_fixedTo : Nat → Int) (m_fixedWord : Nat → Int) (m_fixedEnding : Nat → Int) (m_table : Nat → Int) (m_rest : Nat → Int) (m_parts : Int) (m_partFrom : Nat → Int) (m_partTo : Nat → Int) (m_partWord : Nat → Int) (m_partEnding : Nat → Int) (m_found : Int) (m_from0 : Int) (m_kind0 : Int) : Option (Nat × (Int × (Nat → Int) × (Nat → Int) × (Nat → Int) × (Nat → Int) × (Nat → Int) × Int)) :=
  gd (inI x5) <|
  gd (inI m_n) <|
  if m_n < x5 then
    some (1, (x5, m_rest, m_partFrom, m_partTo, m_partWord, m_partEnding, m_found))
  else
    (m_X9_onePart x1 x5 x3 x4 x2 m_kind m_itsClass m_count m_endClass m_endPrice m_guess m_base m_steps m_pairs m_n m_fixedMany m_breaks m_fixedFrom m_fixedTo m_fixedWord m_fixedEnding m_table m_rest m_parts m_partFrom m_partTo m_partWord m_partEnding m_found m_from0 m_kind0).bind fun (m_rest_69, m_partFrom_69, m_partTo_69, m_partWord_69, m_partEnding_69, m_found_69) =>
    vl (x5 + 1) fun x5_72 =>
    some (0, (x5_72, m_rest_69, m_partFrom_69, m_partTo_69, m_partWord_69, m_partEnding_69, m_found_69))
def m_X9_eachFrom_44 (x1 : Int) (x2 : Int) (x3 : Int) (x4 : Int) (t0 : Int) (t1 : Int) (m_kind : Nat → Int) (m_itsClass : Nat → Int) (m_count : Nat → Int) (m_endClass : Nat → Int) (m_endPrice : Nat → Int) (m_words : Int) (m_endings : Int) (m_guess : Int) (m_base : Int) (m_steps : Nat → Int) (m_pairs : Nat → Int) (m_n : Int) (m_fixedMany : Int) (m_breaks : Nat → Int) (m_fixedFrom : Nat → Int) (m_fixedTo : Nat → Int) (m_fixedWord : Nat → Int) (m_fixedEnding : Nat → Int) (m_table : Nat → Int) (m_rest : Nat → Int) (m_parts : Int) (m_partFrom : Nat → Int) (m_partTo : Nat → Int) (m_partWord : Nat → Int) (m_partEnding : Nat → Int) (m_found : Int) (m_from0 : Int) (m_kind0 : Int) : Option (Nat × (Int × (Nat → Int) × (Nat → Int) × (Nat → Int) × (Nat → Int) × (Nat → Int) × Int)) :=
  gd (inI t0) <|
  gd (inI t1) <|
  if t1 ≤ t0 then
    some (1, (x4, m_rest, m_partFrom, m_partTo, m_partWord, m_partEnding, m_found))
  else
    vl (x1 + 1) fun x5_50 =>
    (zloop (fun a => m_X9_eachFrom_52 x1 x2 x3 x4 a.1 m_kind m_itsClass m_count m_endClass m_endPrice m_words m_endings m_guess m_base m_steps m_pairs m_n m_fixedMany m_breaks m_fixedFrom m_fixedTo m_fixedWord m_fixedEnding m_table a.2.1 m_parts a.2.2.1 a.2.2.2.1 a.2.2.2.2.1 a.2.2.2.2.2.1 a.2.2.2.2.2.2 m_from0 m_kind0) FU (x5_50, m_rest, m_partFrom, m_partTo, m_partWord, m_partEnding, m_found)).bind fun (t_52, x5_52, m_rest_52, m_partFrom_52, m_partTo_52, m_partWord_52, m_partEnding_52, m_found_52) =>
    vl (x4 + 1) fun x4_78 =>
    some (0, (x4_78, m_rest_52, m_partFrom_52, m_partTo_52, m_partWord_52, m_partEnding_52, m_found_52))
def m_X9_eachFrom_28 (x1 : Int) (x2 : Int) (x3 : Int) (x4 : Int) (m_kind : Nat → Int) (m_itsClass : Nat → Int) (m_count : Nat → Int) (m_endClass : Nat → Int) (m_endPrice : Nat → Int) (m_words : Int) (m_endings : Int) (m_guess : Int) (m_base : Int) (m_steps : Nat → Int) (m_pairs : Nat → Int) (m_n : Int) (m_fixedMany : Int) (m_breaks : Nat → Int) (m_fixedFrom : Nat → Int) (m_fixedTo : Nat → Int) (m_fixedWord : Nat → Int) (m_fixedEnding : Nat → Int) (m_table : Nat → Int) (m_rest : Nat → Int) (m_parts : Int) (m_partFrom : Nat → Int) (m_partTo : Nat → Int) (m_partWord : Nat → Int) (m_partEnding : Nat → Int) (m_found : Int) (m_from0 : Int) (m_kind0 : Int) : Option (Nat × (Int × (Nat → Int) × (Nat → Int) × (Nat → Int) × (Nat → Int) × (Nat → Int) × Int)) :=
  gd (inI x3) <|
  if x3 = 60 then
    m_X9_eachFrom_44 x1 x2 x3 x4 x4 0 m_kind m_itsClass m_count m_endClass m_endPrice m_words m_endings m_guess m_base m_steps m_pairs m_n m_fixedMany m_breaks m_fixedFrom m_fixedTo m_fixedWord m_fixedEnding m_table m_rest m_parts m_partFrom m_partTo m_partWord m_partEnding m_found m_from0 m_kind0
  else
    m_X9_eachFrom_44 x1 x2 x3 x4 x4 m_endings m_kind m_itsClass m_count m_endClass m_endPrice m_words m_endings m_guess m_base m_steps m_pairs m_n m_fixedMany m_breaks m_fixedFrom m_fixedTo m_fixedWord m_fixedEnding m_table m_rest m_parts m_partFrom m_partTo m_partWord m_partEnding m_found m_from0 m_kind0
def m_X9_eachFrom_25 (x1 : Int) (x2 : Int) (x3 : Int) (m_kind : Nat → Int) (m_itsClass : Nat → Int) (m_count : Nat → Int) (m_endClass : Nat → Int) (m_endPrice : Nat → Int) (m_words : Int) (m_endings : Int) (m_guess : Int) (m_base : Int) (m_steps : Nat → Int) (m_pairs : Nat → Int) (m_n : Int) (m_fixedMany : Int) (m_breaks : Nat → Int) (m_fixedFrom : Nat → Int) (m_fixedTo : Nat → Int) (m_fixedWord : Nat → Int) (m_fixedEnding : Nat → Int) (m_table : Nat → Int) (m_rest : Nat → Int) (m_parts : Int) (m_partFrom : Nat → Int) (m_partTo : Nat → Int) (m_partWord : Nat → Int) (m_partEnding : Nat → Int) (m_found : Int) (m_from0 : Int) (m_kind0 : Int) : Option (Nat × (Int × (Nat → Int) × (Nat → Int) × (Nat → Int) × (Nat → Int) × (Nat → Int) × Int)) :=
  (zloop (fun a => m_X9_eachFrom_28 x1 x2 x3 a.1 m_kind m_itsClass m_count m_endClass m_endPrice m_words m_endings m_guess m_base m_steps m_pairs m_n m_fixedMany m_breaks m_fixedFrom m_fixedTo m_fixedWord m_fixedEnding m_table a.2.1 m_parts a.2.2.1 a.2.2.2.1 a.2.2.2.2.1 a.2.2.2.2.2.1 a.2.2.2.2.2.2 m_from0 m_kind0) FU ((-1), m_rest, m_partFrom, m_partTo, m_partWord, m_partEnding, m_found)).bind fun (t_28, x4_28, m_rest_28, m_partFrom_28, m_partTo_28, m_partWord_28, m_partEnding_28, m_found_28) =>
  vl (x3 + 1) fun x3_84_v2 =>
  some (0, (x3_84_v2, m_rest_28, m_partFrom_28, m_partTo_28, m_partWord_28, m_partEnding_28, m_found_28))
def m_X9_eachFrom_2 (x1 : Int) (x2 : Int) (x3 : Int) (m_kind : Nat → Int) (m_itsClass : Nat → Int) (m_count : Nat → Int) (m_endClass : Nat → Int) (m_endPrice : Nat → Int) (m_words : Int) (m_endings : Int) (m_guess : Int) (m_base : Int) (m_steps : Nat → Int) (m_pairs : Nat → Int) (m_n : Int) (m_fixedMany : Int) (m_breaks : Nat → Int) (m_fixedFrom : Nat → Int) (m_fixedTo : Nat → Int) (m_fixedWord : Nat → Int) (m_fixedEnding : Nat → Int) (m_table : Nat → Int) (m_rest : Nat → Int) (m_parts : Int) (m_partFrom : Nat → Int) (m_partTo : Nat → Int) (m_partWord : Nat → Int) (m_partEnding : Nat → Int) (m_found : Int) (m_from0 : Int) (m_kind0 : Int) : Option (Nat × (Int × (Nat → Int) × (Nat → Int) × (Nat → Int) × (Nat → Int) × (Nat → Int) × Int)) :=
  gd (inI x3) <|
  if 60 < x3 then
    some (1, (x3, m_rest, m_partFrom, m_partTo, m_partWord, m_partEnding, m_found))
  else
    gd (inI m_words) <|
    if x3 < m_words then
      m_X9_eachFrom_25 x1 x2 x3 m_kind m_itsClass m_count m_endClass m_endPrice m_words m_endings m_guess m_base m_steps m_pairs m_n m_fixedMany m_breaks m_fixedFrom m_fixedTo m_fixedWord m_fixedEnding m_table m_rest m_parts m_partFrom m_partTo m_partWord m_partEnding m_found m_from0 m_kind0
    else
      if 60 ≤ x3 then
        m_X9_eachFrom_25 x1 x2 x3 m_kind m_itsClass m_count m_endClass m_endPrice m_words m_endings m_guess m_base m_steps m_pairs m_n m_fixedMany m_breaks m_fixedFrom m_fixedTo m_fixedWord m_fixedEnding m_table m_rest m_parts m_partFrom m_partTo m_partWord m_partEnding m_found m_from0 m_kind0
      else
        vl (x3 + 1) fun x3_84 =>
        some (0, (x3_84, m_rest, m_partFrom, m_partTo, m_partWord, m_partEnding, m_found))
def m_X9_eachFrom (x1 : Int) (x2 : Int) (m_kind : Nat → Int) (m_itsClass : Nat → Int) (m_count : Nat → Int) (m_endClass : Nat → Int) (m_endPrice : Nat → Int) (m_words : Int) (m_endings : Int) (m_guess : Int) (m_base : Int) (m_steps : Nat → Int) (m_pairs : Nat → Int) (m_n : Int) (m_fixedMany : Int) (m_breaks : Nat → Int) (m_fixedFrom : Nat → Int) (m_fixedTo : Nat → Int) (m_fixedWord : Nat → Int) (m_fixedEnding : Nat → Int) (m_table : Nat → Int) (m_rest : Nat → Int) (m_parts : Int) (m_partFrom : Nat → Int) (m_partTo : Nat → Int) (m_partWord : Nat → Int) (m_partEnding : Nat → Int) (m_found : Int) (m_from0 : Int) (m_kind0 : Int) : Option ((Nat → Int) × (Nat → Int) × (Nat → Int) × (Nat → Int) × (Nat → Int) × Int) :=
  (zloop (fun a => m_X9_eachFrom_2 x1 x2 a.1 m_kind m_itsClass m_count m_endClass m_endPrice m_words m_endings m_guess m_base m_steps m_pairs m_n m_fixedMany m_breaks m_fixedFrom m_fixedTo m_fixedWord m_fixedEnding m_table a.2.1 m_parts a.2.2.1 a.2.2.2.1 a.2.2.2.2.1 a.2.2.2.2.2.1 a.2.2.2.2.2.2 m_from0 m_kind0) FU (0, m_rest, m_partFrom, m_partTo, m_partWord, m_partEnding, m_found)).bind fun (t_2, x3_2, m_rest_2, m_partFrom_2, m_partTo_2, m_partWord_2, m_partEnding_2, m_found_2) =>
  some (m_rest_2, m_partFrom_2, m_partTo_2, m_partWord_2, m_partEnding_2, m_found_2)
def m_X9_leastAhead_6 (x1 : Int) (x2 : Int) (x3 : Int) (x4 : Int) (m_steps : Nat → Int) (m_pairs : Nat → Int) (m_ahead : Nat → Int) : Option (Nat × (Int × Int)) :=
  gd (inI x4) <|
  if 9 < x4 then
    some (1, (x3, x4))
  else
    (m_X9_at x1 x4).bind fun r_20 =>
    gd (0 ≤ r_20 ∧ r_20 < 370) <|
    gd (inI (m_ahead (Int.toNat r_20))) <|
    if 134217728 ≤ (m_ahead (Int.toNat r_20)) then
      vl (x4 + 1) fun x4_53 =>
      some (0, (x3, x4_53))
    else
      (m_X9_at x1 x4).bind fun r_37 =>
      gd (0 ≤ r_37 ∧ r_37 < 370) <|
      (m_X9_stepOf x4 x2 m_steps m_pairs).bind fun r_45 =>
      gd (inI x3) <|
      gd (inI ((m_ahead (Int.toNat r_37)) + r_45)) <|
      vl (min x3 ((m_ahead (Int.toNat r_37)) + r_45)) fun x3_52 =>
      vl (x4 + 1) fun x4_53_v2 =>
      some (0, (x3_52, x4_53_v2))
def m_X9_leastAhead (x1 : Int) (x2 : Int) (m_steps : Nat → Int) (m_pairs : Nat → Int) (m_ahead : Nat → Int) : Option (Int) :=
  (zloop (fun a => m_X9_leastAhead_6 x1 x2 a.1 a.2 m_steps m_pairs m_ahead) FU (134217728, 0)).bind fun (t_6, x3_6, x4_6) =>
  some x3_6
def m_X9_goAhead (x1 : Int) (x2 : Int) (x3 : Int) (x4 : Int) (m_kind : Nat → Int) (m_itsClass : Nat → Int) (m_count : Nat → Int) (m_endClass : Nat → Int) (m_endPrice : Nat → Int) (m_guess : Int) (m_base : Int) (m_steps : Nat → Int) (m_pairs : Nat → Int) (m_n : Int) (m_fixedMany : Int) (m_breaks : Nat → Int) (m_fixedFrom : Nat → Int) (m_fixedTo : Nat → Int) (m_fixedWord : Nat → Int) (m_fixedEnding : Nat → Int) (m_table : Nat → Int) (m_ahead : Nat → Int) : Option ((Nat → Int)) :=
  (m_X9_costOf x1 x2 x3 x4 m_itsClass m_count m_endClass m_endPrice m_guess m_base m_table).bind fun r_6 =>
  gd (inI r_6) <|
  if 134217728 ≤ r_6 then
    some m_ahead
  else
    (m_X9_isAllowed x1 x2 x3 x4 m_n m_fixedMany m_breaks m_fixedFrom m_fixedTo m_fixedWord m_fixedEnding).bind fun r_24 =>
    gd (inI r_24) <|
    if r_24 = 0 then
      some m_ahead
    else
      (m_X9_kindOf x3 m_kind).bind fun r_35 =>
      (m_X9_leastAhead x1 r_35 m_steps m_pairs m_ahead).bind fun r_38 =>
      gd (inI r_38) <|
      if 134217728 ≤ r_38 then
        some m_ahead
      else
        (m_X9_kindOf x3 m_kind).bind fun r_57 =>
        (m_X9_at x2 r_57).bind fun r_60 =>
        (m_X9_kindOf x3 m_kind).bind fun r_70 =>
        (m_X9_at x2 r_70).bind fun r_73 =>
        gd (0 ≤ r_73 ∧ r_73 < 370) <|
        gd (inI (m_ahead (Int.toNat r_73))) <|
        gd (inI (r_38 + r_6)) <|
        gd (0 ≤ r_60 ∧ r_60 < 370) <|
        vl (uz m_ahead (Int.toNat r_60) (min (m_ahead (Int.toNat r_73)) (r_38 + r_6))) fun m_ahead_85 =>
        some m_ahead_85
def m_X9_readAhead_12 (x1 : Int) (x2 : Int) (m_kind : Nat → Int) (m_itsClass : Nat → Int) (m_count : Nat → Int) (m_endClass : Nat → Int) (m_endPrice : Nat → Int) (m_words : Int) (m_endings : Int) (m_guess : Int) (m_base : Int) (m_steps : Nat → Int) (m_pairs : Nat → Int) (m_n : Int) (m_fixedMany : Int) (m_breaks : Nat → Int) (m_fixedFrom : Nat → Int) (m_fixedTo : Nat → Int) (m_fixedWord : Nat → Int) (m_fixedEnding : Nat → Int) (m_table : Nat → Int) (m_ahead : Nat → Int) : Option (Nat × (Int × (Nat → Int))) :=
  gd (inI x2) <|
  if 9 < x2 then
    some (1, (x2, m_ahead))
  else
    (m_X9_at x1 x2).bind fun r_24 =>
    gd (inI x1) <|
    if x1 = 0 then
      if x2 = 9 then
        gd (0 ≤ r_24 ∧ r_24 < 370) <|
        vl (uz m_ahead (Int.toNat r_24) 0) fun m_ahead_43_v3 =>
        vl (x2 + 1) fun x2_44_v3 =>
        some (0, (x2_44_v3, m_ahead_43_v3))
      else
        gd (0 ≤ r_24 ∧ r_24 < 370) <|
        vl (uz m_ahead (Int.toNat r_24) 134217728) fun m_ahead_43_v2 =>
        vl (x2 + 1) fun x2_44_v2 =>
        some (0, (x2_44_v2, m_ahead_43_v2))
    else
      gd (0 ≤ r_24 ∧ r_24 < 370) <|
      vl (uz m_ahead (Int.toNat r_24) 134217728) fun m_ahead_43 =>
      vl (x2 + 1) fun x2_44 =>
      some (0, (x2_44, m_ahead_43))
def m_X9_readAhead_2 (x1 : Int) (m_kind : Nat → Int) (m_itsClass : Nat → Int) (m_count : Nat → Int) (m_endClass : Nat → Int) (m_endPrice : Nat → Int) (m_words : Int) (m_endings : Int) (m_guess : Int) (m_base : Int) (m_steps : Nat → Int) (m_pairs : Nat → Int) (m_n : Int) (m_fixedMany : Int) (m_breaks : Nat → Int) (m_fixedFrom : Nat → Int) (m_fixedTo : Nat → Int) (m_fixedWord : Nat → Int) (m_fixedEnding : Nat → Int) (m_table : Nat → Int) (m_ahead : Nat → Int) : Option (Nat × (Int × (Nat → Int))) :=
  gd (inI x1) <|
  gd (inI m_n) <|
  if m_n < x1 then
    some (1, (x1, m_ahead))
  else
    (zloop (fun a => m_X9_readAhead_12 x1 a.1 m_kind m_itsClass m_count m_endClass m_endPrice m_words m_endings m_guess m_base m_steps m_pairs m_n m_fixedMany m_breaks m_fixedFrom m_fixedTo m_fixedWord m_fixedEnding m_table a.2) FU (0, m_ahead)).bind fun (t_12, x2_12, m_ahead_12) =>
    vl (x1 + 1) fun x1_50 =>
    some (0, (x1_50, m_ahead_12))
def m_X9_readAhead_116 (x1 : Int) (x2 : Int) (x3 : Int) (x4 : Int) (m_kind : Nat → Int) (m_itsClass : Nat → Int) (m_count : Nat → Int) (m_endClass : Nat → Int) (m_endPrice : Nat → Int) (m_words : Int) (m_endings : Int) (m_guess : Int) (m_base : Int) (m_steps : Nat → Int) (m_pairs : Nat → Int) (m_n : Int) (m_fixedMany : Int) (m_breaks : Nat → Int) (m_fixedFrom : Nat → Int) (m_fixedTo : Nat → Int) (m_fixedWord : Nat → Int) (m_fixedEnding : Nat → Int) (m_table : Nat → Int) (m_ahead : Nat → Int) : Option (Nat × (Int × (Nat → Int))) :=
  gd (inI x4) <|
  gd (inI m_n) <|
  if m_n < x4 then
    some (1, (x4, m_ahead))
  else
    (m_X9_goAhead x1 x4 x2 x3 m_kind m_itsClass m_count m_endClass m_endPrice m_guess m_base m_steps m_pairs m_n m_fixedMany m_breaks m_fixedFrom m_fixedTo m_fixedWord m_fixedEnding m_table m_ahead).bind fun m_ahead_131 =>
    vl (x4 + 1) fun x4_134 =>
    some (0, (x4_134, m_ahead_131))
def m_X9_readAhead_108 (x1 : Int) (x2 : Int) (x3 : Int) (t0 : Int) (t1 : Int) (m_kind : Nat → Int) (m_itsClass : Nat → Int) (m_count : Nat → Int) (m_endClass : Nat → Int) (m_endPrice : Nat → Int) (m_words : Int) (m_endings : Int) (m_guess : Int) (m_base : Int) (m_steps : Nat → Int) (m_pairs : Nat → Int) (m_n : Int) (m_fixedMany : Int) (m_breaks : Nat → Int) (m_fixedFrom : Nat → Int) (m_fixedTo : Nat → Int) (m_fixedWord : Nat → Int) (m_fixedEnding : Nat → Int) (m_table : Nat → Int) (m_ahead : Nat → Int) : Option (Nat × (Int × (Nat → Int))) :=
  gd (inI t0) <|
  gd (inI t1) <|
  if t1 ≤ t0 then
    some (1, (x3, m_ahead))
  else
    vl (x1 + 1) fun x4_114 =>
    (zloop (fun a => m_X9_readAhead_116 x1 x2 x3 a.1 m_kind m_itsClass m_count m_endClass m_endPrice m_words m_endings m_guess m_base m_steps m_pairs m_n m_fixedMany m_breaks m_fixedFrom m_fixedTo m_fixedWord m_fixedEnding m_table a.2) FU (x4_114, m_ahead)).bind fun (t_116, x4_116, m_ahead_116) =>
    vl (x3 + 1) fun x3_140 =>
    some (0, (x3_140, m_ahead_116))
def m_X9_readAhead_93 (x1 : Int) (x2 : Int) (x3 : Int) (m_kind : Nat → Int) (m_itsClass : Nat → Int) (m_count : Nat → Int) (m_endClass : Nat → Int) (m_endPrice : Nat → Int) (m_words : Int) (m_endings : Int) (m_guess : Int) (m_base : Int) (m_steps : Nat → Int) (m_pairs : Nat → Int) (m_n : Int) (m_fixedMany : Int) (m_breaks : Nat → Int) (m_fixedFrom : Nat → Int) (m_fixedTo : Nat → Int) (m_fixedWord : Nat → Int) (m_fixedEnding : Nat → Int) (m_table : Nat → Int) (m_ahead : Nat → Int) : Option (Nat × (Int × (Nat → Int))) :=
  gd (inI x2) <|
  if x2 = 60 then
    m_X9_readAhead_108 x1 x2 x3 x3 0 m_kind m_itsClass m_count m_endClass m_endPrice m_words m_endings m_guess m_base m_steps m_pairs m_n m_fixedMany m_breaks m_fixedFrom m_fixedTo m_fixedWord m_fixedEnding m_table m_ahead
  else
    m_X9_readAhead_108 x1 x2 x3 x3 m_endings m_kind m_itsClass m_count m_endClass m_endPrice m_words m_endings m_guess m_base m_steps m_pairs m_n m_fixedMany m_breaks m_fixedFrom m_fixedTo m_fixedWord m_fixedEnding m_table m_ahead
def m_X9_readAhead_91 (x1 : Int) (x2 : Int) (m_kind : Nat → Int) (m_itsClass : Nat → Int) (m_count : Nat → Int) (m_endClass : Nat → Int) (m_endPrice : Nat → Int) (m_words : Int) (m_endings : Int) (m_guess : Int) (m_base : Int) (m_steps : Nat → Int) (m_pairs : Nat → Int) (m_n : Int) (m_fixedMany : Int) (m_breaks : Nat → Int) (m_fixedFrom : Nat → Int) (m_fixedTo : Nat → Int) (m_fixedWord : Nat → Int) (m_fixedEnding : Nat → Int) (m_table : Nat → Int) (m_ahead : Nat → Int) : Option (Nat × (Int × (Nat → Int))) :=
  (zloop (fun a => m_X9_readAhead_93 x1 x2 a.1 m_kind m_itsClass m_count m_endClass m_endPrice m_words m_endings m_guess m_base m_steps m_pairs m_n m_fixedMany m_breaks m_fixedFrom m_fixedTo m_fixedWord m_fixedEnding m_table a.2) FU ((-1), m_ahead)).bind fun (t_93, x3_93, m_ahead_93) =>
  vl (x2 + 1) fun x2_146_v2 =>
  some (0, (x2_146_v2, m_ahead_93))
def m_X9_readAhead_68 (x1 : Int) (x2 : Int) (m_kind : Nat → Int) (m_itsClass : Nat → Int) (m_count : Nat → Int) (m_endClass : Nat → Int) (m_endPrice : Nat → Int) (m_words : Int) (m_endings : Int) (m_guess : Int) (m_base : Int) (m_steps : Nat → Int) (m_pairs : Nat → Int) (m_n : Int) (m_fixedMany : Int) (m_breaks : Nat → Int) (m_fixedFrom : Nat → Int) (m_fixedTo : Nat → Int) (m_fixedWord : Nat → Int) (m_fixedEnding : Nat → Int) (m_table : Nat → Int) (m_ahead : Nat → Int) : Option (Nat × (Int × (Nat → Int))) :=
  gd (inI x2) <|
  if 60 < x2 then
    some (1, (x2, m_ahead))
  else
    gd (inI m_words) <|
    if x2 < m_words then
      m_X9_readAhead_91 x1 x2 m_kind m_itsClass m_count m_endClass m_endPrice m_words m_endings m_guess m_base m_steps m_pairs m_n m_fixedMany m_breaks m_fixedFrom m_fixedTo m_fixedWord m_fixedEnding m_table m_ahead
    else
      if 60 ≤ x2 then
        m_X9_readAhead_91 x1 x2 m_kind m_itsClass m_count m_endClass m_endPrice m_words m_endings m_guess m_base m_steps m_pairs m_n m_fixedMany m_breaks m_fixedFrom m_fixedTo m_fixedWord m_fixedEnding m_table m_ahead
      else
        vl (x2 + 1) fun x2_146 =>
        some (0, (x2_146, m_ahead))
def m_X9_readAhead_58 (x1 : Int) (m_kind : Nat → Int) (m_itsClass : Nat → Int) (m_count : Nat → Int) (m_endClass : Nat → Int) (m_endPrice : Nat → Int) (m_words : Int) (m_endings : Int) (m_guess : Int) (m_base : Int) (m_steps : Nat → Int) (m_pairs : Nat → Int) (m_n : Int) (m_fixedMany : Int) (m_breaks : Nat → Int) (m_fixedFrom : Nat → Int) (m_fixedTo : Nat → Int) (m_fixedWord : Nat → Int) (m_fixedEnding : Nat → Int) (m_table : Nat → Int) (m_ahead : Nat → Int) : Option (Nat × (Int × (Nat → Int))) :=
  gd (inI x1) <|
  gd (inI m_n) <|
  if m_n ≤ x1 then
    some (1, (x1, m_ahead))
  else
    (zloop (fun a => m_X9_readAhead_68 x1 a.1 m_kind m_itsClass m_count m_endClass m_endPrice m_words m_endings m_guess m_base m_steps m_pairs m_n m_fixedMany m_breaks m_fixedFrom m_fixedTo m_fixedWord m_fixedEnding m_table a.2) FU (0, m_ahead)).bind fun (t_68, x2_68, m_ahead_68) =>
    vl (x1 + 1) fun x1_152 =>
    some (0, (x1_152, m_ahead_68))
def m_X9_readAhead (m_kind : Nat → Int) (m_itsClass : Nat → Int) (m_count : Nat → Int) (m_endClass : Nat → Int) (m_endPrice : Nat → Int) (m_words : Int) (m_endings : Int) (m_guess : Int) (m_base : Int) (m_steps : Nat → Int) (m_pairs : Nat → Int) (m_n : Int) (m_fixedMany : Int) (m_breaks : Nat → Int) (m_fixedFrom : Nat → Int) (m_fixedTo : Nat → Int) (m_fixedWord : Nat → Int) (m_fixedEnding : Nat → Int) (m_table : Nat → Int) (m_ahead : Nat → Int) : Option ((Nat → Int)) :=
  (zloop (fun a => m_X9_readAhead_2 a.1 m_kind m_itsClass m_count m_endClass m_endPrice m_words m_endings m_guess m_base m_steps m_pairs m_n m_fixedMany m_breaks m_fixedFrom m_fixedTo m_fixedWord m_fixedEnding m_table a.2) FU (0, m_ahead)).bind fun (t_2, x1_2, m_ahead_2) =>
  (zloop (fun a => m_X9_readAhead_58 a.1 m_kind m_itsClass m_count m_endClass m_endPrice m_words m_endings m_guess m_base m_steps m_pairs m_n m_fixedMany m_breaks m_fixedFrom m_fixedTo m_fixedWord m_fixedEnding m_table a.2) FU (0, m_ahead_2)).bind fun (t_58, x1_58, m_ahead_58) =>
  some m_ahead_58
def m_X9_read_31 (x1 : Int) (m_spellMany : Nat → Int) (m_spellPrice : Nat → Int) (m_spell : Nat → Int) (m_sounds : Nat → Int) (m_endSounds : Nat → Int) (m_kind : Nat → Int) (m_itsClass : Nat → Int) (m_count : Nat → Int) (m_endClass : Nat → Int) (m_endPrice : Nat → Int) (m_words : Int) (m_endings : Int) (m_slip : Int) (m_guess : Int) (m_base : Int) (m_steps : Nat → Int) (m_pairs : Nat → Int) (m_n : Int) (m_fixedMany : Int) (m_line : Nat → Int) (m_breaks : Nat → Int) (m_fixedFrom : Nat → Int) (m_fixedTo : Nat → Int) (m_fixedWord : Nat → Int) (m_fixedEnding : Nat → Int) (m_isRead : Int) (m_isMade : Int) (m_table : Nat → Int) (m_reach : Nat → Int) (m_next : Nat → Int) (m_rest : Nat → Int) (m_ahead : Nat → Int) (m_parts : Int) (m_total : Int) (m_partFrom : Nat → Int) (m_partTo : Nat → Int) (m_partWord : Nat → Int) (m_partEnding : Nat → Int) (m_found : Int) (m_from0 : Int) (m_kind0 : Int) : Option (Nat × (Int × (Nat → Int))) :=
  gd (inI x1) <|
  if 9 < x1 then
    some (1, (x1, m_rest))
  else
    (m_X9_at m_n x1).bind fun r_46 =>
    gd (0 ≤ r_46 ∧ r_46 < 370) <|
    vl (uz m_rest (Int.toNat r_46) 0) fun m_rest_50 =>
    vl (x1 + 1) fun x1_51 =>
    some (0, (x1_51, m_rest_50))
def m_X9_read_70 (x1 : Int) (x2 : Int) (m_spellMany : Nat → Int) (m_spellPrice : Nat → Int) (m_spell : Nat → Int) (m_sounds : Nat → Int) (m_endSounds : Nat → Int) (m_kind : Nat → Int) (m_itsClass : Nat → Int) (m_count : Nat → Int) (m_endClass : Nat → Int) (m_endPrice : Nat → Int) (m_words : Int) (m_endings : Int) (m_slip : Int) (m_guess : Int) (m_base : Int) (m_steps : Nat → Int) (m_pairs : Nat → Int) (m_n : Int) (m_fixedMany : Int) (m_line : Nat → Int) (m_breaks : Nat → Int) (m_fixedFrom : Nat → Int) (m_fixedTo : Nat → Int) (m_fixedWord : Nat → Int) (m_fixedEnding : Nat → Int) (m_isRead : Int) (m_isMade : Int) (m_table : Nat → Int) (m_reach : Nat → Int) (m_next : Nat → Int) (m_rest : Nat → Int) (m_ahead : Nat → Int) (m_parts : Int) (m_total : Int) (m_partFrom : Nat → Int) (m_partTo : Nat → Int) (m_partWord : Nat → Int) (m_partEnding : Nat → Int) (m_found : Int) (m_from0 : Int) (m_kind0 : Int) : Option (Nat × (Int × (Nat → Int))) :=
  gd (inI x2) <|
  if 9 < x2 then
    some (1, (x2, m_rest))
  else
    (m_X9_at x1 x2).bind fun r_82 =>
    gd (0 ≤ r_82 ∧ r_82 < 370) <|
    vl (uz m_rest (Int.toNat r_82) 134217728) fun m_rest_87 =>
    vl (x2 + 1) fun x2_88 =>
    some (0, (x2_88, m_rest_87))
def m_X9_read_64 (x1 : Int) (m_spellMany : Nat → Int) (m_spellPrice : Nat → Int) (m_spell : Nat → Int) (m_sounds : Nat → Int) (m_endSounds : Nat → Int) (m_kind : Nat → Int) (m_itsClass : Nat → Int) (m_count : Nat → Int) (m_endClass : Nat → Int) (m_endPrice : Nat → Int) (m_words : Int) (m_endings : Int) (m_slip : Int) (m_guess : Int) (m_base : Int) (m_steps : Nat → Int) (m_pairs : Nat → Int) (m_n : Int) (m_fixedMany : Int) (m_line : Nat → Int) (m_breaks : Nat → Int) (m_fixedFrom : Nat → Int) (m_fixedTo : Nat → Int) (m_fixedWord : Nat → Int) (m_fixedEnding : Nat → Int) (m_isRead : Int) (m_isMade : Int) (m_table : Nat → Int) (m_reach : Nat → Int) (m_next : Nat → Int) (m_rest : Nat → Int) (m_ahead : Nat → Int) (m_parts : Int) (m_total : Int) (m_partFrom : Nat → Int) (m_partTo : Nat → Int) (m_partWord : Nat → Int) (m_partEnding : Nat → Int) (m_found : Int) (m_from0 : Int) (m_kind0 : Int) : Option (Nat × (Int × (Nat → Int) × (Nat → Int) × (Nat → Int) × (Nat → Int) × (Nat → Int) × Int)) :=
  gd (inI x1) <|
  if x1 < 0 then
    some (1, (x1, m_rest, m_partFrom, m_partTo, m_partWord, m_partEnding, m_found))
  else
    (zloop (fun a => m_X9_read_70 x1 a.1 m_spellMany m_spellPrice m_spell m_sounds m_endSounds m_kind m_itsClass m_count m_endClass m_endPrice m_words m_endings m_slip m_guess m_base m_steps m_pairs m_n m_fixedMany m_line m_breaks m_fixedFrom m_fixedTo m_fixedWord m_fixedEnding m_isRead m_isMade m_table m_reach m_next a.2 m_ahead m_parts m_total m_partFrom m_partTo m_partWord m_partEnding m_found m_from0 m_kind0) FU (0, m_rest)).bind fun (t_70, x2_70, m_rest_70) =>
    (m_X9_eachFrom x1 0 m_kind m_itsClass m_count m_endClass m_endPrice m_words m_endings m_guess m_base m_steps m_pairs m_n m_fixedMany m_breaks m_fixedFrom m_fixedTo m_fixedWord m_fixedEnding m_table m_rest_70 m_parts m_partFrom m_partTo m_partWord m_partEnding m_found m_from0 m_kind0).bind fun (m_rest_97, m_partFrom_97, m_partTo_97, m_partWord_97, m_partEnding_97, m_found_97) =>
    vl (x1 + (-1)) fun x1_100 =>
    some (0, (x1_100, m_rest_97, m_partFrom_97, m_partTo_97, m_partWord_97, m_partEnding_97, m_found_97))
def m_X9_read_131 (x1 : Int) (x2 : Int) (m_spellMany : Nat → Int) (m_spellPrice : Nat → Int) (m_spell : Nat → Int) (m_sounds : Nat → Int) (m_endSounds : Nat → Int) (m_kind : Nat → Int) (m_itsClass : Nat → Int) (m_count : Nat → Int) (m_endClass : Nat → Int) (m_endPrice : Nat → Int) (m_words : Int) (m_endings : Int) (m_slip : Int) (m_guess : Int) (m_base : Int) (m_steps : Nat → Int) (m_pairs : Nat → Int) (m_n : Int) (m_fixedMany : Int) (m_line : Nat → Int) (m_breaks : Nat → Int) (m_fixedFrom : Nat → Int) (m_fixedTo : Nat → Int) (m_fixedWord : Nat → Int) (m_fixedEnding : Nat → Int) (m_isRead : Int) (m_isMade : Int) (m_table : Nat → Int) (m_reach : Nat → Int) (m_next : Nat → Int) (m_rest : Nat → Int) (m_ahead : Nat → Int) (m_parts : Int) (m_total : Int) (m_partFrom : Nat → Int) (m_partTo : Nat → Int) (m_partWord : Nat → Int) (m_partEnding : Nat → Int) (m_found : Int) (m_from0 : Int) (m_kind0 : Int) : Option (Nat × (Int × Int × (Nat → Int) × Int × (Nat → Int) × (Nat → Int) × (Nat → Int) × (Nat → Int) × Int × Int × Int)) :=
  gd (inI m_total) <|
  if 134217728 ≤ m_total then
    some (1, (x1, x2, m_rest, m_parts, m_partFrom, m_partTo, m_partWord, m_partEnding, m_found, m_from0, m_kind0))
  else
    gd (inI x1) <|
    gd (inI m_n) <|
    if m_n ≤ x1 then
      some (1, (x1, x2, m_rest, m_parts, m_partFrom, m_partTo, m_partWord, m_partEnding, m_found, m_from0, m_kind0))
    else
      (m_X9_eachFrom x1 1 m_kind m_itsClass m_count m_endClass m_endPrice m_words m_endings m_guess m_base m_steps m_pairs m_n m_fixedMany m_breaks m_fixedFrom m_fixedTo m_fixedWord m_fixedEnding m_table m_rest m_parts m_partFrom m_partTo m_partWord m_partEnding 0 x1 x2).bind fun (m_rest_166, m_partFrom_166, m_partTo_166, m_partWord_166, m_partEnding_166, m_found_166) =>
      gd (0 ≤ m_parts ∧ m_parts < 36) <|
      vl (m_partTo_166 (Int.toNat m_parts)) fun x1_178 =>
      gd (0 ≤ m_parts ∧ m_parts < 36) <|
      (m_X9_kindOf (m_partWord_166 (Int.toNat m_parts)) m_kind).bind fun r_189 =>
      vl (m_parts + 1) fun m_parts_200 =>
      some (0, (x1_178, r_189, m_rest_166, m_parts_200, m_partFrom_166, m_partTo_166, m_partWord_166, m_partEnding_166, m_found_166, x1, x2))
def m_X9_read_206 (m_spellMany : Nat → Int) (m_spellPrice : Nat → Int) (m_spell : Nat → Int) (m_sounds : Nat → Int) (m_endSounds : Nat → Int) (m_kind : Nat → Int) (m_itsClass : Nat → Int) (m_count : Nat → Int) (m_endClass : Nat → Int) (m_endPrice : Nat → Int) (m_words : Int) (m_endings : Int) (m_slip : Int) (m_guess : Int) (m_base : Int) (m_steps : Nat → Int) (m_pairs : Nat → Int) (m_n : Int) (m_fixedMany : Int) (m_line : Nat → Int) (m_breaks : Nat → Int) (m_fixedFrom : Nat → Int) (m_fixedTo : Nat → Int) (m_fixedWord : Nat → Int) (m_fixedEnding : Nat → Int) (m_isRead : Int) (m_isMade : Int) (m_table : Nat → Int) (m_reach : Nat → Int) (m_next : Nat → Int) (m_rest : Nat → Int) (m_ahead : Nat → Int) (m_parts : Int) (m_total : Int) (m_partFrom : Nat → Int) (m_partTo : Nat → Int) (m_partWord : Nat → Int) (m_partEnding : Nat → Int) (m_found : Int) (m_from0 : Int) (m_kind0 : Int) : Option (Int × Int × (Nat → Int) × (Nat → Int) × (Nat → Int) × (Nat → Int) × (Nat → Int) × Int × Int × (Nat → Int) × (Nat → Int) × (Nat → Int) × (Nat → Int) × Int × Int × Int) :=
  (m_X9_readAhead m_kind m_itsClass m_count m_endClass m_endPrice m_words m_endings m_guess m_base m_steps m_pairs m_n m_fixedMany m_breaks m_fixedFrom m_fixedTo m_fixedWord m_fixedEnding m_table m_ahead).bind fun m_ahead_207 =>
  some (m_isRead, m_isMade, m_table, m_reach, m_next, m_rest, m_ahead_207, m_parts, m_total, m_partFrom, m_partTo, m_partWord, m_partEnding, m_found, m_from0, m_kind0)
def m_X9_read_24 (m_spellMany : Nat → Int) (m_spellPrice : Nat → Int) (m_spell : Nat → Int) (m_sounds : Nat → Int) (m_endSounds : Nat → Int) (m_kind : Nat → Int) (m_itsClass : Nat → Int) (m_count : Nat → Int) (m_endClass : Nat → Int) (m_endPrice : Nat → Int) (m_words : Int) (m_endings : Int) (m_slip : Int) (m_guess : Int) (m_base : Int) (m_steps : Nat → Int) (m_pairs : Nat → Int) (m_n : Int) (m_fixedMany : Int) (m_line : Nat → Int) (m_breaks : Nat → Int) (m_fixedFrom : Nat → Int) (m_fixedTo : Nat → Int) (m_fixedWord : Nat → Int) (m_fixedEnding : Nat → Int) (m_isRead : Int) (m_isMade : Int) (m_table : Nat → Int) (m_reach : Nat → Int) (m_next : Nat → Int) (m_rest : Nat → Int) (m_ahead : Nat → Int) (m_parts : Int) (m_total : Int) (m_partFrom : Nat → Int) (m_partTo : Nat → Int) (m_partWord : Nat → Int) (m_partEnding : Nat → Int) (m_found : Int) (m_from0 : Int) (m_kind0 : Int) : Option (Int × Int × (Nat → Int) × (Nat → Int) × (Nat → Int) × (Nat → Int) × (Nat → Int) × Int × Int × (Nat → Int) × (Nat → Int) × (Nat → Int) × (Nat → Int) × Int × Int × Int) :=
  (zloop (fun a => m_X9_read_31 a.1 m_spellMany m_spellPrice m_spell m_sounds m_endSounds m_kind m_itsClass m_count m_endClass m_endPrice m_words m_endings m_slip m_guess m_base m_steps m_pairs m_n m_fixedMany m_line m_breaks m_fixedFrom m_fixedTo m_fixedWord m_fixedEnding m_isRead 1 m_table m_reach m_next a.2 m_ahead m_parts m_total m_partFrom m_partTo m_partWord m_partEnding m_found m_from0 m_kind0) FU (0, m_rest)).bind fun (t_31, x1_31, m_rest_31) =>
  vl (m_n - 1) fun x1_63 =>
  (zloop (fun a => m_X9_read_64 a.1 m_spellMany m_spellPrice m_spell m_sounds m_endSounds m_kind m_itsClass m_count m_endClass m_endPrice m_words m_endings m_slip m_guess m_base m_steps m_pairs m_n m_fixedMany m_line m_breaks m_fixedFrom m_fixedTo m_fixedWord m_fixedEnding m_isRead 1 m_table m_reach m_next a.2.1 m_ahead m_parts m_total a.2.2.1 a.2.2.2.1 a.2.2.2.2.1 a.2.2.2.2.2.1 a.2.2.2.2.2.2 m_from0 m_kind0) FU (x1_63, m_rest_31, m_partFrom, m_partTo, m_partWord, m_partEnding, m_found)).bind fun (t_64, x1_64, m_rest_64, m_partFrom_64, m_partTo_64, m_partWord_64, m_partEnding_64, m_found_64) =>
  (m_X9_at 0 9).bind fun r_114 =>
  gd (0 ≤ r_114 ∧ r_114 < 370) <|
  vl (m_rest_64 (Int.toNat r_114)) fun m_total_118 =>
  (zloop (fun a => m_X9_read_131 a.1 a.2.1 m_spellMany m_spellPrice m_spell m_sounds m_endSounds m_kind m_itsClass m_count m_endClass m_endPrice m_words m_endings m_slip m_guess m_base m_steps m_pairs m_n m_fixedMany m_line m_breaks m_fixedFrom m_fixedTo m_fixedWord m_fixedEnding m_isRead 1 m_table m_reach m_next a.2.2.1 m_ahead a.2.2.2.1 m_total_118 a.2.2.2.2.1 a.2.2.2.2.2.1 a.2.2.2.2.2.2.1 a.2.2.2.2.2.2.2.1 a.2.2.2.2.2.2.2.2.1 a.2.2.2.2.2.2.2.2.2.1 a.2.2.2.2.2.2.2.2.2.2) FU (0, 9, m_rest_64, 0, m_partFrom_64, m_partTo_64, m_partWord_64, m_partEnding_64, m_found_64, m_from0, m_kind0)).bind fun (t_131, x1_131, x2_131, m_rest_131, m_parts_131, m_partFrom_131, m_partTo_131, m_partWord_131, m_partEnding_131, m_found_131, m_from0_131, m_kind0_131) =>
  m_X9_read_206 m_spellMany m_spellPrice m_spell m_sounds m_endSounds m_kind m_itsClass m_count m_endClass m_endPrice m_words m_endings m_slip m_guess m_base m_steps m_pairs m_n m_fixedMany m_line m_breaks m_fixedFrom m_fixedTo m_fixedWord m_fixedEnding m_isRead 1 m_table m_reach m_next m_rest_131 m_ahead m_parts_131 m_total_118 m_partFrom_131 m_partTo_131 m_partWord_131 m_partEnding_131 m_found_131 m_from0_131 m_kind0_131
def m_X9_read (m_spellMany : Nat → Int) (m_spellPrice : Nat → Int) (m_spell : Nat → Int) (m_sounds : Nat → Int) (m_endSounds : Nat → Int) (m_kind : Nat → Int) (m_itsClass : Nat → Int) (m_count : Nat → Int) (m_endClass : Nat → Int) (m_endPrice : Nat → Int) (m_words : Int) (m_endings : Int) (m_slip : Int) (m_guess : Int) (m_base : Int) (m_steps : Nat → Int) (m_pairs : Nat → Int) (m_n : Int) (m_fixedMany : Int) (m_line : Nat → Int) (m_breaks : Nat → Int) (m_fixedFrom : Nat → Int) (m_fixedTo : Nat → Int) (m_fixedWord : Nat → Int) (m_fixedEnding : Nat → Int) (m_isRead : Int) (m_isMade : Int) (m_table : Nat → Int) (m_reach : Nat → Int) (m_next : Nat → Int) (m_rest : Nat → Int) (m_ahead : Nat → Int) (m_parts : Int) (m_total : Int) (m_partFrom : Nat → Int) (m_partTo : Nat → Int) (m_partWord : Nat → Int) (m_partEnding : Nat → Int) (m_found : Int) (m_from0 : Int) (m_kind0 : Int) : Option (Int × Int × (Nat → Int) × (Nat → Int) × (Nat → Int) × (Nat → Int) × (Nat → Int) × Int × Int × (Nat → Int) × (Nat → Int) × (Nat → Int) × (Nat → Int) × Int × Int × Int) :=
  gd (inI m_isRead) <|
  if m_isRead = 0 then
    gd (inI m_isMade) <|
    if m_isMade = 0 then
      (m_X9_makeTable m_spellMany m_spellPrice m_spell m_sounds m_endSounds m_itsClass m_endClass m_words m_endings m_slip m_n m_line m_table m_reach m_next).bind fun (m_table_21, m_reach_21, m_next_21) =>
      m_X9_read_24 m_spellMany m_spellPrice m_spell m_sounds m_endSounds m_kind m_itsClass m_count m_endClass m_endPrice m_words m_endings m_slip m_guess m_base m_steps m_pairs m_n m_fixedMany m_line m_breaks m_fixedFrom m_fixedTo m_fixedWord m_fixedEnding 1 m_isMade m_table_21 m_reach_21 m_next_21 m_rest m_ahead m_parts m_total m_partFrom m_partTo m_partWord m_partEnding m_found m_from0 m_kind0
    else
      m_X9_read_24 m_spellMany m_spellPrice m_spell m_sounds m_endSounds m_kind m_itsClass m_count m_endClass m_endPrice m_words m_endings m_slip m_guess m_base m_steps m_pairs m_n m_fixedMany m_line m_breaks m_fixedFrom m_fixedTo m_fixedWord m_fixedEnding 1 m_isMade m_table m_reach m_next m_rest m_ahead m_parts m_total m_partFrom m_partTo m_partWord m_partEnding m_found m_from0 m_kind0
  else
    some (m_isRead, m_isMade, m_table, m_reach, m_next, m_rest, m_ahead, m_parts, m_total, m_partFrom, m_partTo, m_partWord, m_partEnding, m_found, m_from0, m_kind0)
def m_X9_copyAct_26 (x1 : Int) (x2 : Int) (x3 : Int) (m_oldN : Nat → Int) (m_oldFixed : Nat → Int) (m_oldLine : Nat → Int) (m_oldBreaks : Nat → Int) (m_oldFrom : Nat → Int) (m_oldTo : Nat → Int) (m_oldWord : Nat → Int) (m_oldEnding : Nat → Int) : Option (Nat × (Int × (Nat → Int) × (Nat → Int) × (Nat → Int) × (Nat → Int) × (Nat → Int))) :=
  gd (inI x3) <|
  if 36 ≤ x3 then
    some (1, (x3, m_oldLine, m_oldFrom, m_oldTo, m_oldWord, m_oldEnding))
  else
    gd (0 ≤ ((36 * x1) + x3) ∧ ((36 * x1) + x3) < 2880) <|
    gd (0 ≤ ((36 * x2) + x3) ∧ ((36 * x2) + x3) < 2880) <|
    vl (uz m_oldLine (Int.toNat ((36 * x2) + x3)) (m_oldLine (Int.toNat ((36 * x1) + x3)))) fun m_oldLine_53 =>
    gd (0 ≤ ((36 * x1) + x3) ∧ ((36 * x1) + x3) < 2880) <|
    gd (0 ≤ ((36 * x2) + x3) ∧ ((36 * x2) + x3) < 2880) <|
    vl (uz m_oldFrom (Int.toNat ((36 * x2) + x3)) (m_oldFrom (Int.toNat ((36 * x1) + x3)))) fun m_oldFrom_75 =>
    gd (0 ≤ ((36 * x1) + x3) ∧ ((36 * x1) + x3) < 2880) <|
    gd (0 ≤ ((36 * x2) + x3) ∧ ((36 * x2) + x3) < 2880) <|
    vl (uz m_oldTo (Int.toNat ((36 * x2) + x3)) (m_oldTo (Int.toNat ((36 * x1) + x3)))) fun m_oldTo_97 =>
    gd (0 ≤ ((36 * x1) + x3) ∧ ((36 * x1) + x3) < 2880) <|
    gd (0 ≤ ((36 * x2) + x3) ∧ ((36 * x2) + x3) < 2880) <|
    vl (uz m_oldWord (Int.toNat ((36 * x2) + x3)) (m_oldWord (Int.toNat ((36 * x1) + x3)))) fun m_oldWord_119 =>
    gd (0 ≤ ((36 * x1) + x3) ∧ ((36 * x1) + x3) < 2880) <|
    gd (0 ≤ ((36 * x2) + x3) ∧ ((36 * x2) + x3) < 2880) <|
    vl (uz m_oldEnding (Int.toNat ((36 * x2) + x3)) (m_oldEnding (Int.toNat ((36 * x1) + x3)))) fun m_oldEnding_141 =>
    vl (x3 + 1) fun x3_142 =>
    some (0, (x3_142, m_oldLine_53, m_oldFrom_75, m_oldTo_97, m_oldWord_119, m_oldEnding_141))
def m_X9_copyAct_150 (x1 : Int) (x2 : Int) (x3 : Int) (m_oldN : Nat → Int) (m_oldFixed : Nat → Int) (m_oldLine : Nat → Int) (m_oldBreaks : Nat → Int) (m_oldFrom : Nat → Int) (m_oldTo : Nat → Int) (m_oldWord : Nat → Int) (m_oldEnding : Nat → Int) : Option (Nat × (Int × (Nat → Int))) :=
  gd (inI x3) <|
  if 36 < x3 then
    some (1, (x3, m_oldBreaks))
  else
    gd (0 ≤ ((37 * x1) + x3) ∧ ((37 * x1) + x3) < 2960) <|
    gd (0 ≤ ((37 * x2) + x3) ∧ ((37 * x2) + x3) < 2960) <|
    vl (uz m_oldBreaks (Int.toNat ((37 * x2) + x3)) (m_oldBreaks (Int.toNat ((37 * x1) + x3)))) fun m_oldBreaks_177 =>
    vl (x3 + 1) fun x3_178 =>
    some (0, (x3_178, m_oldBreaks_177))
def m_X9_copyAct (x1 : Int) (x2 : Int) (m_oldN : Nat → Int) (m_oldFixed : Nat → Int) (m_oldLine : Nat → Int) (m_oldBreaks : Nat → Int) (m_oldFrom : Nat → Int) (m_oldTo : Nat → Int) (m_oldWord : Nat → Int) (m_oldEnding : Nat → Int) : Option ((Nat → Int) × (Nat → Int) × (Nat → Int) × (Nat → Int) × (Nat → Int) × (Nat → Int) × (Nat → Int) × (Nat → Int)) :=
  gd (0 ≤ x1 ∧ x1 < 80) <|
  gd (0 ≤ x2 ∧ x2 < 80) <|
  vl (uz m_oldN (Int.toNat x2) (m_oldN (Int.toNat x1))) fun m_oldN_11 =>
  gd (0 ≤ x1 ∧ x1 < 80) <|
  gd (0 ≤ x2 ∧ x2 < 80) <|
  vl (uz m_oldFixed (Int.toNat x2) (m_oldFixed (Int.toNat x1))) fun m_oldFixed_23 =>
  (zloop (fun a => m_X9_copyAct_26 x1 x2 a.1 m_oldN_11 m_oldFixed_23 a.2.1 m_oldBreaks a.2.2.1 a.2.2.2.1 a.2.2.2.2.1 a.2.2.2.2.2) FU (0, m_oldLine, m_oldFrom, m_oldTo, m_oldWord, m_oldEnding)).bind fun (t_26, x3_26, m_oldLine_26, m_oldFrom_26, m_oldTo_26, m_oldWord_26, m_oldEnding_26) =>
  (zloop (fun a => m_X9_copyAct_150 x1 x2 a.1 m_oldN_11 m_oldFixed_23 m_oldLine_26 a.2 m_oldFrom_26 m_oldTo_26 m_oldWord_26 m_oldEnding_26) FU (0, m_oldBreaks)).bind fun (t_150, x3_150, m_oldBreaks_150) =>
  some (m_oldN_11, m_oldFixed_23, m_oldLine_26, m_oldBreaks_150, m_oldFrom_26, m_oldTo_26, m_oldWord_26, m_oldEnding_26)
def m_X9_act_16 (x1 : Int) (m_n : Int) (m_fixedMany : Int) (m_line : Nat → Int) (m_breaks : Nat → Int) (m_fixedFrom : Nat → Int) (m_fixedTo : Nat → Int) (m_fixedWord : Nat → Int) (m_fixedEnding : Nat → Int) (m_acts : Int) (m_oldN : Nat → Int) (m_oldFixed : Nat → Int) (m_oldLine : Nat → Int) (m_oldBreaks : Nat → Int) (m_oldFrom : Nat → Int) (m_oldTo : Nat → Int) (m_oldWord : Nat → Int) (m_oldEnding : Nat → Int) (m_isRead : Int) : Option (Nat × (Int × (Nat → Int) × (Nat → Int) × (Nat → Int) × (Nat → Int) × (Nat → Int) × (Nat → Int) × (Nat → Int) × (Nat → Int))) :=
  gd (inI (x1 + 1)) <|
  if 80 ≤ (x1 + 1) then
    some (1, (x1, m_oldN, m_oldFixed, m_oldLine, m_oldBreaks, m_oldFrom, m_oldTo, m_oldWord, m_oldEnding))
  else
    (m_X9_copyAct (x1 + 1) x1 m_oldN m_oldFixed m_oldLine m_oldBreaks m_oldFrom m_oldTo m_oldWord m_oldEnding).bind fun (m_oldN_29, m_oldFixed_29, m_oldLine_29, m_oldBreaks_29, m_oldFrom_29, m_oldTo_29, m_oldWord_29, m_oldEnding_29) =>
    vl (x1 + 1) fun x1_32 =>
    some (0, (x1_32, m_oldN_29, m_oldFixed_29, m_oldLine_29, m_oldBreaks_29, m_oldFrom_29, m_oldTo_29, m_oldWord_29, m_oldEnding_29))
def m_X9_act_76 (x1 : Int) (m_n : Int) (m_fixedMany : Int) (m_line : Nat → Int) (m_breaks : Nat → Int) (m_fixedFrom : Nat → Int) (m_fixedTo : Nat → Int) (m_fixedWord : Nat → Int) (m_fixedEnding : Nat → Int) (m_acts : Int) (m_oldN : Nat → Int) (m_oldFixed : Nat → Int) (m_oldLine : Nat → Int) (m_oldBreaks : Nat → Int) (m_oldFrom : Nat → Int) (m_oldTo : Nat → Int) (m_oldWord : Nat → Int) (m_oldEnding : Nat → Int) (m_isRead : Int) : Option (Nat × (Int × (Nat → Int) × (Nat → Int) × (Nat → Int) × (Nat → Int) × (Nat → Int))) :=
  gd (inI x1) <|
  if 36 ≤ x1 then
    some (1, (x1, m_oldLine, m_oldFrom, m_oldTo, m_oldWord, m_oldEnding))
  else
    gd (0 ≤ x1 ∧ x1 < 36) <|
    gd (0 ≤ ((36 * m_acts) + x1) ∧ ((36 * m_acts) + x1) < 2880) <|
    vl (uz m_oldLine (Int.toNat ((36 * m_acts) + x1)) (m_line (Int.toNat x1))) fun m_oldLine_101 =>
    gd (0 ≤ x1 ∧ x1 < 36) <|
    gd (0 ≤ ((36 * m_acts) + x1) ∧ ((36 * m_acts) + x1) < 2880) <|
    vl (uz m_oldFrom (Int.toNat ((36 * m_acts) + x1)) (m_fixedFrom (Int.toNat x1))) fun m_oldFrom_121 =>
    gd (0 ≤ x1 ∧ x1 < 36) <|
    gd (0 ≤ ((36 * m_acts) + x1) ∧ ((36 * m_acts) + x1) < 2880) <|
    vl (uz m_oldTo (Int.toNat ((36 * m_acts) + x1)) (m_fixedTo (Int.toNat x1))) fun m_oldTo_141 =>
    gd (0 ≤ x1 ∧ x1 < 36) <|
    gd (0 ≤ ((36 * m_acts) + x1) ∧ ((36 * m_acts) + x1) < 2880) <|
    vl (uz m_oldWord (Int.toNat ((36 * m_acts) + x1)) (m_fixedWord (Int.toNat x1))) fun m_oldWord_161 =>
    gd (0 ≤ x1 ∧ x1 < 36) <|
    gd (0 ≤ ((36 * m_acts) + x1) ∧ ((36 * m_acts) + x1) < 2880) <|
    vl (uz m_oldEnding (Int.toNat ((36 * m_acts) + x1)) (m_fixedEnding (Int.toNat x1))) fun m_oldEnding_181 =>
    vl (x1 + 1) fun x1_182 =>
    some (0, (x1_182, m_oldLine_101, m_oldFrom_121, m_oldTo_141, m_oldWord_161, m_oldEnding_181))
def m_X9_act_190 (x1 : Int) (m_n : Int) (m_fixedMany : Int) (m_line : Nat → Int) (m_breaks : Nat → Int) (m_fixedFrom : Nat → Int) (m_fixedTo : Nat → Int) (m_fixedWord : Nat → Int) (m_fixedEnding : Nat → Int) (m_acts : Int) (m_oldN : Nat → Int) (m_oldFixed : Nat → Int) (m_oldLine : Nat → Int) (m_oldBreaks : Nat → Int) (m_oldFrom : Nat → Int) (m_oldTo : Nat → Int) (m_oldWord : Nat → Int) (m_oldEnding : Nat → Int) (m_isRead : Int) : Option (Nat × (Int × (Nat → Int))) :=
  gd (inI x1) <|
  if 36 < x1 then
    some (1, (x1, m_oldBreaks))
  else
    gd (0 ≤ x1 ∧ x1 < 37) <|
    gd (0 ≤ ((37 * m_acts) + x1) ∧ ((37 * m_acts) + x1) < 2960) <|
    vl (uz m_oldBreaks (Int.toNat ((37 * m_acts) + x1)) (m_breaks (Int.toNat x1))) fun m_oldBreaks_215 =>
    vl (x1 + 1) fun x1_216 =>
    some (0, (x1_216, m_oldBreaks_215))
def m_X9_act_48 (m_n : Int) (m_fixedMany : Int) (m_line : Nat → Int) (m_breaks : Nat → Int) (m_fixedFrom : Nat → Int) (m_fixedTo : Nat → Int) (m_fixedWord : Nat → Int) (m_fixedEnding : Nat → Int) (m_acts : Int) (m_oldN : Nat → Int) (m_oldFixed : Nat → Int) (m_oldLine : Nat → Int) (m_oldBreaks : Nat → Int) (m_oldFrom : Nat → Int) (m_oldTo : Nat → Int) (m_oldWord : Nat → Int) (m_oldEnding : Nat → Int) (m_isRead : Int) : Option (Int × (Nat → Int) × (Nat → Int) × (Nat → Int) × (Nat → Int) × (Nat → Int) × (Nat → Int) × (Nat → Int) × (Nat → Int) × Int) :=
  gd (0 ≤ m_acts ∧ m_acts < 80) <|
  vl (uz m_oldN (Int.toNat m_acts) m_n) fun m_oldN_60 =>
  gd (0 ≤ m_acts ∧ m_acts < 80) <|
  vl (uz m_oldFixed (Int.toNat m_acts) m_fixedMany) fun m_oldFixed_73 =>
  (zloop (fun a => m_X9_act_76 a.1 m_n m_fixedMany m_line m_breaks m_fixedFrom m_fixedTo m_fixedWord m_fixedEnding m_acts m_oldN_60 m_oldFixed_73 a.2.1 m_oldBreaks a.2.2.1 a.2.2.2.1 a.2.2.2.2.1 a.2.2.2.2.2 m_isRead) FU (0, m_oldLine, m_oldFrom, m_oldTo, m_oldWord, m_oldEnding)).bind fun (t_76, x1_76, m_oldLine_76, m_oldFrom_76, m_oldTo_76, m_oldWord_76, m_oldEnding_76) =>
  (zloop (fun a => m_X9_act_190 a.1 m_n m_fixedMany m_line m_breaks m_fixedFrom m_fixedTo m_fixedWord m_fixedEnding m_acts m_oldN_60 m_oldFixed_73 m_oldLine_76 a.2 m_oldFrom_76 m_oldTo_76 m_oldWord_76 m_oldEnding_76 m_isRead) FU (0, m_oldBreaks)).bind fun (t_190, x1_190, m_oldBreaks_190) =>
  vl (m_acts + 1) fun m_acts_229 =>
  some (m_acts_229, m_oldN_60, m_oldFixed_73, m_oldLine_76, m_oldBreaks_190, m_oldFrom_76, m_oldTo_76, m_oldWord_76, m_oldEnding_76, m_isRead)
def m_X9_act (m_n : Int) (m_fixedMany : Int) (m_line : Nat → Int) (m_breaks : Nat → Int) (m_fixedFrom : Nat → Int) (m_fixedTo : Nat → Int) (m_fixedWord : Nat → Int) (m_fixedEnding : Nat → Int) (m_acts : Int) (m_oldN : Nat → Int) (m_oldFixed : Nat → Int) (m_oldLine : Nat → Int) (m_oldBreaks : Nat → Int) (m_oldFrom : Nat → Int) (m_oldTo : Nat → Int) (m_oldWord : Nat → Int) (m_oldEnding : Nat → Int) (m_isRead : Int) : Option (Int × (Nat → Int) × (Nat → Int) × (Nat → Int) × (Nat → Int) × (Nat → Int) × (Nat → Int) × (Nat → Int) × (Nat → Int) × Int) :=
  gd (inI m_acts) <|
  if m_acts = 80 then
    (zloop (fun a => m_X9_act_16 a.1 m_n m_fixedMany m_line m_breaks m_fixedFrom m_fixedTo m_fixedWord m_fixedEnding m_acts a.2.1 a.2.2.1 a.2.2.2.1 a.2.2.2.2.1 a.2.2.2.2.2.1 a.2.2.2.2.2.2.1 a.2.2.2.2.2.2.2.1 a.2.2.2.2.2.2.2.2 0) FU (0, m_oldN, m_oldFixed, m_oldLine, m_oldBreaks, m_oldFrom, m_oldTo, m_oldWord, m_oldEnding)).bind fun (t_16, x1_16, m_oldN_16, m_oldFixed_16, m_oldLine_16, m_oldBreaks_16, m_oldFrom_16, m_oldTo_16, m_oldWord_16, m_oldEnding_16) =>
    vl (m_acts - 1) fun m_acts_45 =>
    m_X9_act_48 m_n m_fixedMany m_line m_breaks m_fixedFrom m_fixedTo m_fixedWord m_fixedEnding m_acts_45 m_oldN_16 m_oldFixed_16 m_oldLine_16 m_oldBreaks_16 m_oldFrom_16 m_oldTo_16 m_oldWord_16 m_oldEnding_16 0
  else
    m_X9_act_48 m_n m_fixedMany m_line m_breaks m_fixedFrom m_fixedTo m_fixedWord m_fixedEnding m_acts m_oldN m_oldFixed m_oldLine m_oldBreaks m_oldFrom m_oldTo m_oldWord m_oldEnding 0
def m_X9_type_16 (m_code : Int) (m_n : Int) (m_fixedMany : Int) (m_line : Nat → Int) (m_breaks : Nat → Int) (m_fixedFrom : Nat → Int) (m_fixedTo : Nat → Int) (m_fixedWord : Nat → Int) (m_fixedEnding : Nat → Int) (m_acts : Int) (m_oldN : Nat → Int) (m_oldFixed : Nat → Int) (m_oldLine : Nat → Int) (m_oldBreaks : Nat → Int) (m_oldFrom : Nat → Int) (m_oldTo : Nat → Int) (m_oldWord : Nat → Int) (m_oldEnding : Nat → Int) (m_isRead : Int) (m_isMade : Int) : Option (Int × Int × Int × (Nat → Int) × (Nat → Int) × Int × (Nat → Int) × (Nat → Int) × (Nat → Int) × (Nat → Int) × (Nat → Int) × (Nat → Int) × (Nat → Int) × (Nat → Int) × Int × Int) :=
  (m_X9_fail m_code).bind fun (r_17, m_code_17) =>
  some (r_17, m_code_17, m_n, m_line, m_breaks, m_acts, m_oldN, m_oldFixed, m_oldLine, m_oldBreaks, m_oldFrom, m_oldTo, m_oldWord, m_oldEnding, m_isRead, m_isMade)
def m_X9_type_40 (x1 : Int) (x2 : Int) (x3 : Int) (m_code : Int) (m_n : Int) (m_fixedMany : Int) (m_line : Nat → Int) (m_breaks : Nat → Int) (m_fixedFrom : Nat → Int) (m_fixedTo : Nat → Int) (m_fixedWord : Nat → Int) (m_fixedEnding : Nat → Int) (m_acts : Int) (m_oldN : Nat → Int) (m_oldFixed : Nat → Int) (m_oldLine : Nat → Int) (m_oldBreaks : Nat → Int) (m_oldFrom : Nat → Int) (m_oldTo : Nat → Int) (m_oldWord : Nat → Int) (m_oldEnding : Nat → Int) (m_isRead : Int) (m_isMade : Int) : Option (Nat × (Int × Int)) :=
  gd (inI x3) <|
  gd (inI m_fixedMany) <|
  if m_fixedMany ≤ x3 then
    some (1, (x2, x3))
  else
    gd (0 ≤ x3 ∧ x3 < 36) <|
    gd (inI (m_fixedTo (Int.toNat x3))) <|
    gd (inI m_n) <|
    if (m_fixedTo (Int.toNat x3)) = m_n then
      vl (x3 + 1) fun x3_63_v2 =>
      some (0, (1, x3_63_v2))
    else
      vl (x3 + 1) fun x3_63 =>
      some (0, (x2, x3_63))
def m_X9_type_93 (x1 : Int) (t1 : Int) (t2 : Int) (m_code : Int) (m_n : Int) (m_fixedMany : Int) (m_line : Nat → Int) (m_breaks : Nat → Int) (m_fixedFrom : Nat → Int) (m_fixedTo : Nat → Int) (m_fixedWord : Nat → Int) (m_fixedEnding : Nat → Int) (m_acts : Int) (m_oldN : Nat → Int) (m_oldFixed : Nat → Int) (m_oldLine : Nat → Int) (m_oldBreaks : Nat → Int) (m_oldFrom : Nat → Int) (m_oldTo : Nat → Int) (m_oldWord : Nat → Int) (m_oldEnding : Nat → Int) (m_isRead : Int) (m_isMade : Int) : Option (Int × Int × Int × (Nat → Int) × (Nat → Int) × Int × (Nat → Int) × (Nat → Int) × (Nat → Int) × (Nat → Int) × (Nat → Int) × (Nat → Int) × (Nat → Int) × (Nat → Int) × Int × Int) :=
  gd (0 ≤ t1 ∧ t1 < 37) <|
  vl (uz m_breaks (Int.toNat t1) t2) fun m_breaks_93 =>
  gd (0 ≤ m_n ∧ m_n < 36) <|
  vl (uz m_line (Int.toNat m_n) x1) fun m_line_103 =>
  vl (m_n + 1) fun m_n_111 =>
  (m_X9_changed m_isRead m_isMade).bind fun (m_isRead_115, m_isMade_115) =>
  some (m_n_111, m_code, m_n_111, m_line_103, m_breaks_93, m_acts, m_oldN, m_oldFixed, m_oldLine, m_oldBreaks, m_oldFrom, m_oldTo, m_oldWord, m_oldEnding, m_isRead_115, m_isMade_115)
def m_X9_type_92 (x1 : Int) (t1 : Int) (m_code : Int) (m_n : Int) (m_fixedMany : Int) (m_line : Nat → Int) (m_breaks : Nat → Int) (m_fixedFrom : Nat → Int) (m_fixedTo : Nat → Int) (m_fixedWord : Nat → Int) (m_fixedEnding : Nat → Int) (m_acts : Int) (m_oldN : Nat → Int) (m_oldFixed : Nat → Int) (m_oldLine : Nat → Int) (m_oldBreaks : Nat → Int) (m_oldFrom : Nat → Int) (m_oldTo : Nat → Int) (m_oldWord : Nat → Int) (m_oldEnding : Nat → Int) (m_isRead : Int) (m_isMade : Int) : Option (Int × Int × Int × (Nat → Int) × (Nat → Int) × Int × (Nat → Int) × (Nat → Int) × (Nat → Int) × (Nat → Int) × (Nat → Int) × (Nat → Int) × (Nat → Int) × (Nat → Int) × Int × Int) :=
  m_X9_type_93 x1 t1 0 m_code m_n m_fixedMany m_line m_breaks m_fixedFrom m_fixedTo m_fixedWord m_fixedEnding m_acts m_oldN m_oldFixed m_oldLine m_oldBreaks m_oldFrom m_oldTo m_oldWord m_oldEnding m_isRead m_isMade
def m_X9_type (x1 : Int) (m_code : Int) (m_n : Int) (m_fixedMany : Int) (m_line : Nat → Int) (m_breaks : Nat → Int) (m_fixedFrom : Nat → Int) (m_fixedTo : Nat → Int) (m_fixedWord : Nat → Int) (m_fixedEnding : Nat → Int) (m_acts : Int) (m_oldN : Nat → Int) (m_oldFixed : Nat → Int) (m_oldLine : Nat → Int) (m_oldBreaks : Nat → Int) (m_oldFrom : Nat → Int) (m_oldTo : Nat → Int) (m_oldWord : Nat → Int) (m_oldEnding : Nat → Int) (m_isRead : Int) (m_isMade : Int) : Option (Int × Int × Int × (Nat → Int) × (Nat → Int) × Int × (Nat → Int) × (Nat → Int) × (Nat → Int) × (Nat → Int) × (Nat → Int) × (Nat → Int) × (Nat → Int) × (Nat → Int) × Int × Int) :=
  gd (inI x1) <|
  if x1 < 1 then
    m_X9_type_16 0 m_n m_fixedMany m_line m_breaks m_fixedFrom m_fixedTo m_fixedWord m_fixedEnding m_acts m_oldN m_oldFixed m_oldLine m_oldBreaks m_oldFrom m_oldTo m_oldWord m_oldEnding m_isRead m_isMade
  else
    if x1 ≤ 26 then
      gd (inI m_n) <|
      if m_n = 36 then
        some ((-1), 0, m_n, m_line, m_breaks, m_acts, m_oldN, m_oldFixed, m_oldLine, m_oldBreaks, m_oldFrom, m_oldTo, m_oldWord, m_oldEnding, m_isRead, m_isMade)
      else
        (m_X9_act m_n m_fixedMany m_line m_breaks m_fixedFrom m_fixedTo m_fixedWord m_fixedEnding m_acts m_oldN m_oldFixed m_oldLine m_oldBreaks m_oldFrom m_oldTo m_oldWord m_oldEnding m_isRead).bind fun (m_acts_33, m_oldN_33, m_oldFixed_33, m_oldLine_33, m_oldBreaks_33, m_oldFrom_33, m_oldTo_33, m_oldWord_33, m_oldEnding_33, m_isRead_33) =>
        (zloop (fun a => m_X9_type_40 x1 a.1 a.2 0 m_n m_fixedMany m_line m_breaks m_fixedFrom m_fixedTo m_fixedWord m_fixedEnding m_acts_33 m_oldN_33 m_oldFixed_33 m_oldLine_33 m_oldBreaks_33 m_oldFrom_33 m_oldTo_33 m_oldWord_33 m_oldEnding_33 m_isRead_33 m_isMade) FU (0, 0)).bind fun (t_40, x2_40, x3_40) =>
        if m_n ≤ 0 then
          m_X9_type_92 x1 m_n 0 m_n m_fixedMany m_line m_breaks m_fixedFrom m_fixedTo m_fixedWord m_fixedEnding m_acts_33 m_oldN_33 m_oldFixed_33 m_oldLine_33 m_oldBreaks_33 m_oldFrom_33 m_oldTo_33 m_oldWord_33 m_oldEnding_33 m_isRead_33 m_isMade
        else
          gd (inI x2_40) <|
          if x2_40 = 0 then
            m_X9_type_92 x1 m_n 0 m_n m_fixedMany m_line m_breaks m_fixedFrom m_fixedTo m_fixedWord m_fixedEnding m_acts_33 m_oldN_33 m_oldFixed_33 m_oldLine_33 m_oldBreaks_33 m_oldFrom_33 m_oldTo_33 m_oldWord_33 m_oldEnding_33 m_isRead_33 m_isMade
          else
            m_X9_type_93 x1 m_n 1 0 m_n m_fixedMany m_line m_breaks m_fixedFrom m_fixedTo m_fixedWord m_fixedEnding m_acts_33 m_oldN_33 m_oldFixed_33 m_oldLine_33 m_oldBreaks_33 m_oldFrom_33 m_oldTo_33 m_oldWord_33 m_oldEnding_33 m_isRead_33 m_isMade
    else
      m_X9_type_16 0 m_n m_fixedMany m_line m_breaks m_fixedFrom m_fixedTo m_fixedWord m_fixedEnding m_acts m_oldN m_oldFixed m_oldLine m_oldBreaks m_oldFrom m_oldTo m_oldWord m_oldEnding m_isRead m_isMade
def m_X9_typed_29 (m_code : Int) (m_n : Int) (m_line : Nat → Int) : Option (Int × Int) :=
  (m_X9_fail m_code).bind fun (r_30, m_code_30) =>
  some (r_30, m_code_30)
def m_X9_typed (x1 : Int) (m_code : Int) (m_n : Int) (m_line : Nat → Int) : Option (Int × Int) :=
  gd (inI x1) <|
  if x1 = (-1) then
    some (m_n, 0)
  else
    if x1 < 0 then
      m_X9_typed_29 0 m_n m_line
    else
      gd (inI m_n) <|
      if x1 < m_n then
        gd (0 ≤ x1 ∧ x1 < 36) <|
        some ((m_line (Int.toNat x1)), 0)
      else
        m_X9_typed_29 0 m_n m_line
def m_X9_cost (m_code : Int) (m_spellMany : Nat → Int) (m_spellPrice : Nat → Int) (m_spell : Nat → Int) (m_sounds : Nat → Int) (m_endSounds : Nat → Int) (m_kind : Nat → Int) (m_itsClass : Nat → Int) (m_count : Nat → Int) (m_endClass : Nat → Int) (m_endPrice : Nat → Int) (m_words : Int) (m_endings : Int) (m_slip : Int) (m_guess : Int) (m_base : Int) (m_steps : Nat → Int) (m_pairs : Nat → Int) (m_n : Int) (m_fixedMany : Int) (m_line : Nat → Int) (m_breaks : Nat → Int) (m_fixedFrom : Nat → Int) (m_fixedTo : Nat → Int) (m_fixedWord : Nat → Int) (m_fixedEnding : Nat → Int) (m_isRead : Int) (m_isMade : Int) (m_table : Nat → Int) (m_reach : Nat → Int) (m_next : Nat → Int) (m_rest : Nat → Int) (m_ahead : Nat → Int) (m_parts : Int) (m_total : Int) (m_partFrom : Nat → Int) (m_partTo : Nat → Int) (m_partWord : Nat → Int) (m_partEnding : Nat → Int) (m_found : Int) (m_from0 : Int) (m_kind0 : Int) : Option (Int × Int × Int × Int × (Nat → Int) × (Nat → Int) × (Nat → Int) × (Nat → Int) × (Nat → Int) × Int × Int × (Nat → Int) × (Nat → Int) × (Nat → Int) × (Nat → Int) × Int × Int × Int) :=
  (m_X9_read m_spellMany m_spellPrice m_spell m_sounds m_endSounds m_kind m_itsClass m_count m_endClass m_endPrice m_words m_endings m_slip m_guess m_base m_steps m_pairs m_n m_fixedMany m_line m_breaks m_fixedFrom m_fixedTo m_fixedWord m_fixedEnding m_isRead m_isMade m_table m_reach m_next m_rest m_ahead m_parts m_total m_partFrom m_partTo m_partWord m_partEnding m_found m_from0 m_kind0).bind fun (m_isRead_6, m_isMade_6, m_table_6, m_reach_6, m_next_6, m_rest_6, m_ahead_6, m_parts_6, m_total_6, m_partFrom_6, m_partTo_6, m_partWord_6, m_partEnding_6, m_found_6, m_from0_6, m_kind0_6) =>
  gd (inI m_total_6) <|
  if m_total_6 < 134217728 then
    some (m_total_6, 0, m_isRead_6, m_isMade_6, m_table_6, m_reach_6, m_next_6, m_rest_6, m_ahead_6, m_parts_6, m_total_6, m_partFrom_6, m_partTo_6, m_partWord_6, m_partEnding_6, m_found_6, m_from0_6, m_kind0_6)
  else
    some ((-1000000), 0, m_isRead_6, m_isMade_6, m_table_6, m_reach_6, m_next_6, m_rest_6, m_ahead_6, m_parts_6, m_total_6, m_partFrom_6, m_partTo_6, m_partWord_6, m_partEnding_6, m_found_6, m_from0_6, m_kind0_6)
def m_X9_parts (m_code : Int) (m_spellMany : Nat → Int) (m_spellPrice : Nat → Int) (m_spell : Nat → Int) (m_sounds : Nat → Int) (m_endSounds : Nat → Int) (m_kind : Nat → Int) (m_itsClass : Nat → Int) (m_count : Nat → Int) (m_endClass : Nat → Int) (m_endPrice : Nat → Int) (m_words : Int) (m_endings : Int) (m_slip : Int) (m_guess : Int) (m_base : Int) (m_steps : Nat → Int) (m_pairs : Nat → Int) (m_n : Int) (m_fixedMany : Int) (m_line : Nat → Int) (m_breaks : Nat → Int) (m_fixedFrom : Nat → Int) (m_fixedTo : Nat → Int) (m_fixedWord : Nat → Int) (m_fixedEnding : Nat → Int) (m_isRead : Int) (m_isMade : Int) (m_table : Nat → Int) (m_reach : Nat → Int) (m_next : Nat → Int) (m_rest : Nat → Int) (m_ahead : Nat → Int) (m_parts : Int) (m_total : Int) (m_partFrom : Nat → Int) (m_partTo : Nat → Int) (m_partWord : Nat → Int) (m_partEnding : Nat → Int) (m_found : Int) (m_from0 : Int) (m_kind0 : Int) : Option (Int × Int × Int × Int × (Nat → Int) × (Nat → Int) × (Nat → Int) × (Nat → Int) × (Nat → Int) × Int × Int × (Nat → Int) × (Nat → Int) × (Nat → Int) × (Nat → Int) × Int × Int × Int) :=
  (m_X9_read m_spellMany m_spellPrice m_spell m_sounds m_endSounds m_kind m_itsClass m_count m_endClass m_endPrice m_words m_endings m_slip m_guess m_base m_steps m_pairs m_n m_fixedMany m_line m_breaks m_fixedFrom m_fixedTo m_fixedWord m_fixedEnding m_isRead m_isMade m_table m_reach m_next m_rest m_ahead m_parts m_total m_partFrom m_partTo m_partWord m_partEnding m_found m_from0 m_kind0).bind fun (m_isRead_6, m_isMade_6, m_table_6, m_reach_6, m_next_6, m_rest_6, m_ahead_6, m_parts_6, m_total_6, m_partFrom_6, m_partTo_6, m_partWord_6, m_partEnding_6, m_found_6, m_from0_6, m_kind0_6) =>
  some (m_parts_6, 0, m_isRead_6, m_isMade_6, m_table_6, m_reach_6, m_next_6, m_rest_6, m_ahead_6, m_parts_6, m_total_6, m_partFrom_6, m_partTo_6, m_partWord_6, m_partEnding_6, m_found_6, m_from0_6, m_kind0_6)
def m_X9_isFixed_2 (x1 : Int) (x2 : Int) (m_fixedMany : Int) (m_fixedFrom : Nat → Int) (m_fixedTo : Nat → Int) (m_partFrom : Nat → Int) (m_partTo : Nat → Int) : Option (Nat × (Int)) :=
  gd (inI x2) <|
  gd (inI m_fixedMany) <|
  if m_fixedMany ≤ x2 then
    some (1, x2)
  else
    gd (0 ≤ x2 ∧ x2 < 36) <|
    gd (0 ≤ x1 ∧ x1 < 36) <|
    gd (inI (m_fixedFrom (Int.toNat x2))) <|
    gd (inI (m_partFrom (Int.toNat x1))) <|
    if (m_fixedFrom (Int.toNat x2)) = (m_partFrom (Int.toNat x1)) then
      gd (0 ≤ x2 ∧ x2 < 36) <|
      gd (0 ≤ x1 ∧ x1 < 36) <|
      gd (inI (m_fixedTo (Int.toNat x2))) <|
      gd (inI (m_partTo (Int.toNat x1))) <|
      if (m_fixedTo (Int.toNat x2)) = (m_partTo (Int.toNat x1)) then
        some (2, x2)
      else
        vl (x2 + 1) fun x2_42_v2 =>
        some (0, x2_42_v2)
    else
      vl (x2 + 1) fun x2_42 =>
      some (0, x2_42)
def m_X9_isFixed (x1 : Int) (m_fixedMany : Int) (m_fixedFrom : Nat → Int) (m_fixedTo : Nat → Int) (m_partFrom : Nat → Int) (m_partTo : Nat → Int) : Option (Int) :=
  (zloop (fun a => m_X9_isFixed_2 x1 a m_fixedMany m_fixedFrom m_fixedTo m_partFrom m_partTo) FU 0).bind fun (t_2, x2_2) =>
  if t_2 = 1 then
    some 0
  else
    some 1
def m_X9_part_21 (m_code : Int) (m_spellMany : Nat → Int) (m_spellPrice : Nat → Int) (m_spell : Nat → Int) (m_sounds : Nat → Int) (m_endSounds : Nat → Int) (m_kind : Nat → Int) (m_itsClass : Nat → Int) (m_count : Nat → Int) (m_endClass : Nat → Int) (m_endPrice : Nat → Int) (m_words : Int) (m_endings : Int) (m_slip : Int) (m_guess : Int) (m_base : Int) (m_steps : Nat → Int) (m_pairs : Nat → Int) (m_n : Int) (m_fixedMany : Int) (m_line : Nat → Int) (m_breaks : Nat → Int) (m_fixedFrom : Nat → Int) (m_fixedTo : Nat → Int) (m_fixedWord : Nat → Int) (m_fixedEnding : Nat → Int) (m_isRead : Int) (m_isMade : Int) (m_table : Nat → Int) (m_reach : Nat → Int) (m_next : Nat → Int) (m_rest : Nat → Int) (m_ahead : Nat → Int) (m_parts : Int) (m_total : Int) (m_partFrom : Nat → Int) (m_partTo : Nat → Int) (m_partWord : Nat → Int) (m_partEnding : Nat → Int) (m_found : Int) (m_from0 : Int) (m_kind0 : Int) : Option (Int × Int × Int × Int × (Nat → Int) × (Nat → Int) × (Nat → Int) × (Nat → Int) × (Nat → Int) × Int × Int × (Nat → Int) × (Nat → Int) × (Nat → Int) × (Nat → Int) × Int × Int × Int) :=
  (m_X9_fail m_code).bind fun (r_22, m_code_22) =>
  some (r_22, m_code_22, m_isRead, m_isMade, m_table, m_reach, m_next, m_rest, m_ahead, m_parts, m_total, m_partFrom, m_partTo, m_partWord, m_partEnding, m_found, m_from0, m_kind0)
def m_X9_part (x1 : Int) (x2 : Int) (m_code : Int) (m_spellMany : Nat → Int) (m_spellPrice : Nat → Int) (m_spell : Nat → Int) (m_sounds : Nat → Int) (m_endSounds : Nat → Int) (m_kind : Nat → Int) (m_itsClass : Nat → Int) (m_count : Nat → Int) (m_endClass : Nat → Int) (m_endPrice : Nat → Int) (m_words : Int) (m_endings : Int) (m_slip : Int) (m_guess : Int) (m_base : Int) (m_steps : Nat → Int) (m_pairs : Nat → Int) (m_n : Int) (m_fixedMany : Int) (m_line : Nat → Int) (m_breaks : Nat → Int) (m_fixedFrom : Nat → Int) (m_fixedTo : Nat → Int) (m_fixedWord : Nat → Int) (m_fixedEnding : Nat → Int) (m_isRead : Int) (m_isMade : Int) (m_table : Nat → Int) (m_reach : Nat → Int) (m_next : Nat → Int) (m_rest : Nat → Int) (m_ahead : Nat → Int) (m_parts : Int) (m_total : Int) (m_partFrom : Nat → Int) (m_partTo : Nat → Int) (m_partWord : Nat → Int) (m_partEnding : Nat → Int) (m_found : Int) (m_from0 : Int) (m_kind0 : Int) : Option (Int × Int × Int × Int × (Nat → Int) × (Nat → Int) × (Nat → Int) × (Nat → Int) × (Nat → Int) × Int × Int × (Nat → Int) × (Nat → Int) × (Nat → Int) × (Nat → Int) × Int × Int × Int) :=
  (m_X9_read m_spellMany m_spellPrice m_spell m_sounds m_endSounds m_kind m_itsClass m_count m_endClass m_endPrice m_words m_endings m_slip m_guess m_base m_steps m_pairs m_n m_fixedMany m_line m_breaks m_fixedFrom m_fixedTo m_fixedWord m_fixedEnding m_isRead m_isMade m_table m_reach m_next m_rest m_ahead m_parts m_total m_partFrom m_partTo m_partWord m_partEnding m_found m_from0 m_kind0).bind fun (m_isRead_6, m_isMade_6, m_table_6, m_reach_6, m_next_6, m_rest_6, m_ahead_6, m_parts_6, m_total_6, m_partFrom_6, m_partTo_6, m_partWord_6, m_partEnding_6, m_found_6, m_from0_6, m_kind0_6) =>
  gd (inI x1) <|
  if x1 < 0 then
    m_X9_part_21 0 m_spellMany m_spellPrice m_spell m_sounds m_endSounds m_kind m_itsClass m_count m_endClass m_endPrice m_words m_endings m_slip m_guess m_base m_steps m_pairs m_n m_fixedMany m_line m_breaks m_fixedFrom m_fixedTo m_fixedWord m_fixedEnding m_isRead_6 m_isMade_6 m_table_6 m_reach_6 m_next_6 m_rest_6 m_ahead_6 m_parts_6 m_total_6 m_partFrom_6 m_partTo_6 m_partWord_6 m_partEnding_6 m_found_6 m_from0_6 m_kind0_6
  else
    gd (inI m_parts_6) <|
    if x1 < m_parts_6 then
      gd (inI x2) <|
      if x2 = 0 then
        gd (0 ≤ x1 ∧ x1 < 36) <|
        some ((m_partFrom_6 (Int.toNat x1)), 0, m_isRead_6, m_isMade_6, m_table_6, m_reach_6, m_next_6, m_rest_6, m_ahead_6, m_parts_6, m_total_6, m_partFrom_6, m_partTo_6, m_partWord_6, m_partEnding_6, m_found_6, m_from0_6, m_kind0_6)
      else
      if x2 = 1 then
        gd (0 ≤ x1 ∧ x1 < 36) <|
        some ((m_partTo_6 (Int.toNat x1)), 0, m_isRead_6, m_isMade_6, m_table_6, m_reach_6, m_next_6, m_rest_6, m_ahead_6, m_parts_6, m_total_6, m_partFrom_6, m_partTo_6, m_partWord_6, m_partEnding_6, m_found_6, m_from0_6, m_kind0_6)
      else
      if x2 = 2 then
        gd (0 ≤ x1 ∧ x1 < 36) <|
        gd (inI (m_partWord_6 (Int.toNat x1))) <|
        if (m_partWord_6 (Int.toNat x1)) = 60 then
          some ((-1), 0, m_isRead_6, m_isMade_6, m_table_6, m_reach_6, m_next_6, m_rest_6, m_ahead_6, m_parts_6, m_total_6, m_partFrom_6, m_partTo_6, m_partWord_6, m_partEnding_6, m_found_6, m_from0_6, m_kind0_6)
        else
          gd (0 ≤ x1 ∧ x1 < 36) <|
          some ((m_partWord_6 (Int.toNat x1)), 0, m_isRead_6, m_isMade_6, m_table_6, m_reach_6, m_next_6, m_rest_6, m_ahead_6, m_parts_6, m_total_6, m_partFrom_6, m_partTo_6, m_partWord_6, m_partEnding_6, m_found_6, m_from0_6, m_kind0_6)
      else
      if x2 = 3 then
        gd (0 ≤ x1 ∧ x1 < 36) <|
        some ((m_partEnding_6 (Int.toNat x1)), 0, m_isRead_6, m_isMade_6, m_table_6, m_reach_6, m_next_6, m_rest_6, m_ahead_6, m_parts_6, m_total_6, m_partFrom_6, m_partTo_6, m_partWord_6, m_partEnding_6, m_found_6, m_from0_6, m_kind0_6)
      else
      if x2 = 4 then
        gd (0 ≤ x1 ∧ x1 < 36) <|
        (m_X9_kindOf (m_partWord_6 (Int.toNat x1)) m_kind).bind fun r_118 =>
        some (r_118, 0, m_isRead_6, m_isMade_6, m_table_6, m_reach_6, m_next_6, m_rest_6, m_ahead_6, m_parts_6, m_total_6, m_partFrom_6, m_partTo_6, m_partWord_6, m_partEnding_6, m_found_6, m_from0_6, m_kind0_6)
      else
      if x2 = 5 then
        gd (0 ≤ x1 ∧ x1 < 36) <|
        gd (0 ≤ x1 ∧ x1 < 36) <|
        gd (0 ≤ x1 ∧ x1 < 36) <|
        gd (0 ≤ x1 ∧ x1 < 36) <|
        (m_X9_costOf (m_partFrom_6 (Int.toNat x1)) (m_partTo_6 (Int.toNat x1)) (m_partWord_6 (Int.toNat x1)) (m_partEnding_6 (Int.toNat x1)) m_itsClass m_count m_endClass m_endPrice m_guess m_base m_table_6).bind fun r_147 =>
        some (r_147, 0, m_isRead_6, m_isMade_6, m_table_6, m_reach_6, m_next_6, m_rest_6, m_ahead_6, m_parts_6, m_total_6, m_partFrom_6, m_partTo_6, m_partWord_6, m_partEnding_6, m_found_6, m_from0_6, m_kind0_6)
      else
      if x2 = 6 then
        (m_X9_isFixed x1 m_fixedMany m_fixedFrom m_fixedTo m_partFrom_6 m_partTo_6).bind fun r_153 =>
        gd (inI r_153) <|
        if r_153 = 0 then
          some (0, 0, m_isRead_6, m_isMade_6, m_table_6, m_reach_6, m_next_6, m_rest_6, m_ahead_6, m_parts_6, m_total_6, m_partFrom_6, m_partTo_6, m_partWord_6, m_partEnding_6, m_found_6, m_from0_6, m_kind0_6)
        else
          some (1, 0, m_isRead_6, m_isMade_6, m_table_6, m_reach_6, m_next_6, m_rest_6, m_ahead_6, m_parts_6, m_total_6, m_partFrom_6, m_partTo_6, m_partWord_6, m_partEnding_6, m_found_6, m_from0_6, m_kind0_6)
      else
      (m_X9_fail 0).bind fun (r_166, m_code_166) =>
      some (r_166, m_code_166, m_isRead_6, m_isMade_6, m_table_6, m_reach_6, m_next_6, m_rest_6, m_ahead_6, m_parts_6, m_total_6, m_partFrom_6, m_partTo_6, m_partWord_6, m_partEnding_6, m_found_6, m_from0_6, m_kind0_6)
    else
      m_X9_part_21 0 m_spellMany m_spellPrice m_spell m_sounds m_endSounds m_kind m_itsClass m_count m_endClass m_endPrice m_words m_endings m_slip m_guess m_base m_steps m_pairs m_n m_fixedMany m_line m_breaks m_fixedFrom m_fixedTo m_fixedWord m_fixedEnding m_isRead_6 m_isMade_6 m_table_6 m_reach_6 m_next_6 m_rest_6 m_ahead_6 m_parts_6 m_total_6 m_partFrom_6 m_partTo_6 m_partWord_6 m_partEnding_6 m_found_6 m_from0_6 m_kind0_6
def m_X9_sign_57 (x1 : Int) (x2 : Int) (x3 : Int) (x4 : Int) (x5 : Int) (x6 : Int) (m_code : Int) (m_spellMany : Nat → Int) (m_spellPrice : Nat → Int) (m_spell : Nat → Int) (m_sounds : Nat → Int) (m_signs : Nat → Int) (m_endSounds : Nat → Int) (m_kind : Nat → Int) (m_itsClass : Nat → Int) (m_count : Nat → Int) (m_endSign : Nat → Int) (m_endClass : Nat → Int) (m_endPrice : Nat → Int) (m_words : Int) (m_endings : Int) (m_slip : Int) (m_guess : Int) (m_base : Int) (m_steps : Nat → Int) (m_pairs : Nat → Int) (m_n : Int) (m_fixedMany : Int) (m_line : Nat → Int) (m_breaks : Nat → Int) (m_fixedFrom : Nat → Int) (m_fixedTo : Nat → Int) (m_fixedWord : Nat → Int) (m_fixedEnding : Nat → Int) (m_isRead : Int) (m_isMade : Int) (m_table : Nat → Int) (m_reach : Nat → Int) (m_next : Nat → Int) (m_rest : Nat → Int) (m_ahead : Nat → Int) (m_parts : Int) (m_total : Int) (m_partFrom : Nat → Int) (m_partTo : Nat → Int) (m_partWord : Nat → Int) (m_partEnding : Nat → Int) (m_found : Int) (m_from0 : Int) (m_kind0 : Int) : Option (Nat × (Int × Int)) :=
  gd (inI x6) <|
  gd (inI x5) <|
  if x5 ≤ x6 then
    some (1, (x2, x6))
  else
    gd (inI x2) <|
    gd (inI x1) <|
    if x2 = x1 then
      some (2, (x2, x6))
    else
      vl (x2 + 1) fun x2_109 =>
      vl (x6 + 1) fun x6_112 =>
      some (0, (x2_109, x6_112))
def m_X9_sign_52 (x1 : Int) (x2 : Int) (x3 : Int) (x4 : Int) (t0 : Int) (m_code : Int) (m_spellMany : Nat → Int) (m_spellPrice : Nat → Int) (m_spell : Nat → Int) (m_sounds : Nat → Int) (m_signs : Nat → Int) (m_endSounds : Nat → Int) (m_kind : Nat → Int) (m_itsClass : Nat → Int) (m_count : Nat → Int) (m_endSign : Nat → Int) (m_endClass : Nat → Int) (m_endPrice : Nat → Int) (m_words : Int) (m_endings : Int) (m_slip : Int) (m_guess : Int) (m_base : Int) (m_steps : Nat → Int) (m_pairs : Nat → Int) (m_n : Int) (m_fixedMany : Int) (m_line : Nat → Int) (m_breaks : Nat → Int) (m_fixedFrom : Nat → Int) (m_fixedTo : Nat → Int) (m_fixedWord : Nat → Int) (m_fixedEnding : Nat → Int) (m_isRead : Int) (m_isMade : Int) (m_table : Nat → Int) (m_reach : Nat → Int) (m_next : Nat → Int) (m_rest : Nat → Int) (m_ahead : Nat → Int) (m_parts : Int) (m_total : Int) (m_partFrom : Nat → Int) (m_partTo : Nat → Int) (m_partWord : Nat → Int) (m_partEnding : Nat → Int) (m_found : Int) (m_from0 : Int) (m_kind0 : Int) : Option (Nat × (Int × Int × Int × Int)) :=
  (zloop (fun a => m_X9_sign_57 x1 a.1 x3 x4 t0 a.2 m_code m_spellMany m_spellPrice m_spell m_sounds m_signs m_endSounds m_kind m_itsClass m_count m_endSign m_endClass m_endPrice m_words m_endings m_slip m_guess m_base m_steps m_pairs m_n m_fixedMany m_line m_breaks m_fixedFrom m_fixedTo m_fixedWord m_fixedEnding m_isRead m_isMade m_table m_reach m_next m_rest m_ahead m_parts m_total m_partFrom m_partTo m_partWord m_partEnding m_found m_from0 m_kind0) FU (x2, 0)).bind fun (t_57, x2_57, x6_57) =>
  if t_57 = 1 then
    gd (0 ≤ x3 ∧ x3 < 36) <|
    gd (inI (m_partEnding (Int.toNat x3))) <|
    if (m_partEnding (Int.toNat x3)) = (-1) then
      vl (x3 + 1) fun x3_151_v2 =>
      some (0, (x2_57, x3_151_v2, 0, 0))
    else
      gd (inI x2_57) <|
      gd (inI x1) <|
      if x2_57 = x1 then
        some (3, (x2_57, x3, 0, 0))
      else
        vl (x2_57 + 1) fun x2_148 =>
        vl (x3 + 1) fun x3_151 =>
        some (0, (x2_148, x3_151, 0, 0))
  else
    some (2, (0, x3, x4, x6_57))
def m_X9_sign_13 (x4 : Int) (x6 : Int) (x1 : Int) (x2 : Int) (x3 : Int) (m_code : Int) (m_spellMany : Nat → Int) (m_spellPrice : Nat → Int) (m_spell : Nat → Int) (m_sounds : Nat → Int) (m_signs : Nat → Int) (m_endSounds : Nat → Int) (m_kind : Nat → Int) (m_itsClass : Nat → Int) (m_count : Nat → Int) (m_endSign : Nat → Int) (m_endClass : Nat → Int) (m_endPrice : Nat → Int) (m_words : Int) (m_endings : Int) (m_slip : Int) (m_guess : Int) (m_base : Int) (m_steps : Nat → Int) (m_pairs : Nat → Int) (m_n : Int) (m_fixedMany : Int) (m_line : Nat → Int) (m_breaks : Nat → Int) (m_fixedFrom : Nat → Int) (m_fixedTo : Nat → Int) (m_fixedWord : Nat → Int) (m_fixedEnding : Nat → Int) (m_isRead : Int) (m_isMade : Int) (m_table : Nat → Int) (m_reach : Nat → Int) (m_next : Nat → Int) (m_rest : Nat → Int) (m_ahead : Nat → Int) (m_parts : Int) (m_total : Int) (m_partFrom : Nat → Int) (m_partTo : Nat → Int) (m_partWord : Nat → Int) (m_partEnding : Nat → Int) (m_found : Int) (m_from0 : Int) (m_kind0 : Int) : Option (Nat × (Int × Int × Int × Int)) :=
  gd (inI x3) <|
  gd (inI m_parts) <|
  if m_parts ≤ x3 then
    some (1, (x2, x3, x4, x6))
  else
    gd (0 ≤ x3 ∧ x3 < 36) <|
    vl (m_partWord (Int.toNat x3)) fun x4_27 =>
    gd (inI x4_27) <|
    if x4_27 = 60 then
      m_X9_sign_52 x1 x2 x3 x4_27 1 m_code m_spellMany m_spellPrice m_spell m_sounds m_signs m_endSounds m_kind m_itsClass m_count m_endSign m_endClass m_endPrice m_words m_endings m_slip m_guess m_base m_steps m_pairs m_n m_fixedMany m_line m_breaks m_fixedFrom m_fixedTo m_fixedWord m_fixedEnding m_isRead m_isMade m_table m_reach m_next m_rest m_ahead m_parts m_total m_partFrom m_partTo m_partWord m_partEnding m_found m_from0 m_kind0
    else
      gd (0 ≤ x4_27 ∧ x4_27 < 60) <|
      (m_X9_sizeOf (m_signs (Int.toNat x4_27)) 14).bind fun r_49 =>
      m_X9_sign_52 x1 x2 x3 x4_27 r_49 m_code m_spellMany m_spellPrice m_spell m_sounds m_signs m_endSounds m_kind m_itsClass m_count m_endSign m_endClass m_endPrice m_words m_endings m_slip m_guess m_base m_steps m_pairs m_n m_fixedMany m_line m_breaks m_fixedFrom m_fixedTo m_fixedWord m_fixedEnding m_isRead m_isMade m_table m_reach m_next m_rest m_ahead m_parts m_total m_partFrom m_partTo m_partWord m_partEnding m_found m_from0 m_kind0
def m_X9_sign (x1 : Int) (m_code : Int) (m_spellMany : Nat → Int) (m_spellPrice : Nat → Int) (m_spell : Nat → Int) (m_sounds : Nat → Int) (m_signs : Nat → Int) (m_endSounds : Nat → Int) (m_kind : Nat → Int) (m_itsClass : Nat → Int) (m_count : Nat → Int) (m_endSign : Nat → Int) (m_endClass : Nat → Int) (m_endPrice : Nat → Int) (m_words : Int) (m_endings : Int) (m_slip : Int) (m_guess : Int) (m_base : Int) (m_steps : Nat → Int) (m_pairs : Nat → Int) (m_n : Int) (m_fixedMany : Int) (m_line : Nat → Int) (m_breaks : Nat → Int) (m_fixedFrom : Nat → Int) (m_fixedTo : Nat → Int) (m_fixedWord : Nat → Int) (m_fixedEnding : Nat → Int) (m_isRead : Int) (m_isMade : Int) (m_table : Nat → Int) (m_reach : Nat → Int) (m_next : Nat → Int) (m_rest : Nat → Int) (m_ahead : Nat → Int) (m_parts : Int) (m_total : Int) (m_partFrom : Nat → Int) (m_partTo : Nat → Int) (m_partWord : Nat → Int) (m_partEnding : Nat → Int) (m_found : Int) (m_from0 : Int) (m_kind0 : Int) : Option (Int × Int × Int × Int × (Nat → Int) × (Nat → Int) × (Nat → Int) × (Nat → Int) × (Nat → Int) × Int × Int × (Nat → Int) × (Nat → Int) × (Nat → Int) × (Nat → Int) × Int × Int × Int) :=
  (m_X9_read m_spellMany m_spellPrice m_spell m_sounds m_endSounds m_kind m_itsClass m_count m_endClass m_endPrice m_words m_endings m_slip m_guess m_base m_steps m_pairs m_n m_fixedMany m_line m_breaks m_fixedFrom m_fixedTo m_fixedWord m_fixedEnding m_isRead m_isMade m_table m_reach m_next m_rest m_ahead m_parts m_total m_partFrom m_partTo m_partWord m_partEnding m_found m_from0 m_kind0).bind fun (m_isRead_6, m_isMade_6, m_table_6, m_reach_6, m_next_6, m_rest_6, m_ahead_6, m_parts_6, m_total_6, m_partFrom_6, m_partTo_6, m_partWord_6, m_partEnding_6, m_found_6, m_from0_6, m_kind0_6) =>
  (zloop (fun a => m_X9_sign_13 a.2.2.1 a.2.2.2 x1 a.1 a.2.1 0 m_spellMany m_spellPrice m_spell m_sounds m_signs m_endSounds m_kind m_itsClass m_count m_endSign m_endClass m_endPrice m_words m_endings m_slip m_guess m_base m_steps m_pairs m_n m_fixedMany m_line m_breaks m_fixedFrom m_fixedTo m_fixedWord m_fixedEnding m_isRead_6 m_isMade_6 m_table_6 m_reach_6 m_next_6 m_rest_6 m_ahead_6 m_parts_6 m_total_6 m_partFrom_6 m_partTo_6 m_partWord_6 m_partEnding_6 m_found_6 m_from0_6 m_kind0_6) FU (0, 0, 0, 0)).bind fun (t_13, x2_13, x3_13, x4_13, x6_13) =>
  if t_13 = 1 then
    gd (inI x1) <|
    if x1 = (-1) then
      some (x2_13, 0, m_isRead_6, m_isMade_6, m_table_6, m_reach_6, m_next_6, m_rest_6, m_ahead_6, m_parts_6, m_total_6, m_partFrom_6, m_partTo_6, m_partWord_6, m_partEnding_6, m_found_6, m_from0_6, m_kind0_6)
    else
      (m_X9_fail 0).bind fun (r_167, m_code_167) =>
      some (r_167, m_code_167, m_isRead_6, m_isMade_6, m_table_6, m_reach_6, m_next_6, m_rest_6, m_ahead_6, m_parts_6, m_total_6, m_partFrom_6, m_partTo_6, m_partWord_6, m_partEnding_6, m_found_6, m_from0_6, m_kind0_6)
  else
  if t_13 = 2 then
    gd (inI x4_13) <|
    if x4_13 = 60 then
      gd (0 ≤ x3_13 ∧ x3_13 < 36) <|
      gd (0 ≤ (m_partFrom_6 (Int.toNat x3_13)) ∧ (m_partFrom_6 (Int.toNat x3_13)) < 36) <|
      some ((20000 + (m_line (Int.toNat (m_partFrom_6 (Int.toNat x3_13))))), 0, m_isRead_6, m_isMade_6, m_table_6, m_reach_6, m_next_6, m_rest_6, m_ahead_6, m_parts_6, m_total_6, m_partFrom_6, m_partTo_6, m_partWord_6, m_partEnding_6, m_found_6, m_from0_6, m_kind0_6)
    else
      gd (0 ≤ x4_13 ∧ x4_13 < 60) <|
      (m_X9_piece (m_signs (Int.toNat x4_13)) 14 x6_13).bind fun r_105 =>
      some (r_105, 0, m_isRead_6, m_isMade_6, m_table_6, m_reach_6, m_next_6, m_rest_6, m_ahead_6, m_parts_6, m_total_6, m_partFrom_6, m_partTo_6, m_partWord_6, m_partEnding_6, m_found_6, m_from0_6, m_kind0_6)
  else
    gd (0 ≤ x3_13 ∧ x3_13 < 36) <|
    gd (0 ≤ (m_partEnding_6 (Int.toNat x3_13)) ∧ (m_partEnding_6 (Int.toNat x3_13)) < 8) <|
    some ((m_endSign (Int.toNat (m_partEnding_6 (Int.toNat x3_13)))), 0, m_isRead_6, m_isMade_6, m_table_6, m_reach_6, m_next_6, m_rest_6, m_ahead_6, m_parts_6, m_total_6, m_partFrom_6, m_partTo_6, m_partWord_6, m_partEnding_6, m_found_6, m_from0_6, m_kind0_6)
def m_X9_put_6 (x1 : Int) (x2 : Int) (x3 : Int) (x4 : Int) (m_choiceWord : Nat → Int) (m_choiceEnding : Nat → Int) (m_choiceCost : Nat → Int) (m_choices : Int) : Option (Nat × (Int)) :=
  gd (inI x4) <|
  if x4 ≤ 0 then
    some (1, x4)
  else
    gd (0 ≤ (x4 - 1) ∧ (x4 - 1) < 12) <|
    gd (inI (m_choiceCost (Int.toNat (x4 - 1)))) <|
    gd (inI x3) <|
    if (m_choiceCost (Int.toNat (x4 - 1))) ≤ x3 then
      some (1, x4)
    else
      vl (x4 + (-1)) fun x4_24 =>
      some (0, x4_24)
def m_X9_put_65 (x1 : Int) (x2 : Int) (x3 : Int) (x4 : Int) (x5 : Int) (m_choiceWord : Nat → Int) (m_choiceEnding : Nat → Int) (m_choiceCost : Nat → Int) (m_choices : Int) : Option (Nat × (Int × (Nat → Int) × (Nat → Int) × (Nat → Int))) :=
  gd (inI x5) <|
  gd (inI x4) <|
  if x5 ≤ x4 then
    some (1, (x5, m_choiceWord, m_choiceEnding, m_choiceCost))
  else
    gd (0 ≤ (x5 - 1) ∧ (x5 - 1) < 12) <|
    gd (0 ≤ x5 ∧ x5 < 12) <|
    vl (uz m_choiceWord (Int.toNat x5) (m_choiceWord (Int.toNat (x5 - 1)))) fun m_choiceWord_87 =>
    gd (0 ≤ (x5 - 1) ∧ (x5 - 1) < 12) <|
    gd (0 ≤ x5 ∧ x5 < 12) <|
    vl (uz m_choiceEnding (Int.toNat x5) (m_choiceEnding (Int.toNat (x5 - 1)))) fun m_choiceEnding_103 =>
    gd (0 ≤ (x5 - 1) ∧ (x5 - 1) < 12) <|
    gd (0 ≤ x5 ∧ x5 < 12) <|
    vl (uz m_choiceCost (Int.toNat x5) (m_choiceCost (Int.toNat (x5 - 1)))) fun m_choiceCost_119 =>
    vl (x5 + (-1)) fun x5_120 =>
    some (0, (x5_120, m_choiceWord_87, m_choiceEnding_103, m_choiceCost_119))
def m_X9_put_57 (x1 : Int) (x2 : Int) (x3 : Int) (x4 : Int) (m_choiceWord : Nat → Int) (m_choiceEnding : Nat → Int) (m_choiceCost : Nat → Int) (m_choices : Int) : Option ((Nat → Int) × (Nat → Int) × (Nat → Int) × Int) :=
  vl (m_choices - 1) fun x5_63 =>
  (zloop (fun a => m_X9_put_65 x1 x2 x3 x4 a.1 a.2.1 a.2.2.1 a.2.2.2 m_choices) FU (x5_63, m_choiceWord, m_choiceEnding, m_choiceCost)).bind fun (t_65, x5_65, m_choiceWord_65, m_choiceEnding_65, m_choiceCost_65) =>
  gd (0 ≤ x4 ∧ x4 < 12) <|
  vl (uz m_choiceWord_65 (Int.toNat x4) x1) fun m_choiceWord_133 =>
  gd (0 ≤ x4 ∧ x4 < 12) <|
  vl (uz m_choiceEnding_65 (Int.toNat x4) x2) fun m_choiceEnding_141 =>
  gd (0 ≤ x4 ∧ x4 < 12) <|
  vl (uz m_choiceCost_65 (Int.toNat x4) x3) fun m_choiceCost_149 =>
  some (m_choiceWord_133, m_choiceEnding_141, m_choiceCost_149, m_choices)
