def m_X9_put_30 (x1 : Int) (x2 : Int) (x3 : Int) (x4 : Int) (m_choiceWord : Nat → Int) (m_choiceEnding : Nat → Int) (m_choiceCost : Nat → Int) (m_choices : Int) : Option ((Nat → Int) × (Nat → Int) × (Nat → Int) × Int) :=
  gd (inI x4) <|
  if x4 = 12 then
    some (m_choiceWord, m_choiceEnding, m_choiceCost, m_choices)
  else
    gd (inI m_choices) <|
    if 12 ≤ m_choices then
      m_X9_put_57 x1 x2 x3 x4 m_choiceWord m_choiceEnding m_choiceCost m_choices
    else
      vl (m_choices + 1) fun m_choices_54 =>
      m_X9_put_57 x1 x2 x3 x4 m_choiceWord m_choiceEnding m_choiceCost m_choices_54
def m_X9_put (x1 : Int) (x2 : Int) (x3 : Int) (m_choiceWord : Nat → Int) (m_choiceEnding : Nat → Int) (m_choiceCost : Nat → Int) (m_choices : Int) : Option ((Nat → Int) × (Nat → Int) × (Nat → Int) × Int) :=
  (zloop (fun a => m_X9_put_6 x1 x2 x3 a m_choiceWord m_choiceEnding m_choiceCost m_choices) FU m_choices).bind fun (t_6, x4_6) =>
  m_X9_put_30 x1 x2 x3 x4_6 m_choiceWord m_choiceEnding m_choiceCost m_choices
def m_X9_choose0_68 (x2 : Int) (x3 : Int) (x4 : Int) (x5 : Int) (t0 : Int) (t1 : Int) (m_kind : Nat → Int) (m_itsClass : Nat → Int) (m_count : Nat → Int) (m_endClass : Nat → Int) (m_endPrice : Nat → Int) (m_words : Int) (m_endings : Int) (m_guess : Int) (m_base : Int) (m_steps : Nat → Int) (m_pairs : Nat → Int) (m_n : Int) (m_breaks : Nat → Int) (m_table : Nat → Int) (m_rest : Nat → Int) (m_ahead : Nat → Int) (m_partFrom : Nat → Int) (m_partTo : Nat → Int) (m_choiceWord : Nat → Int) (m_choiceEnding : Nat → Int) (m_choiceCost : Nat → Int) (m_choices : Int) : Option (Nat × (Int × (Nat → Int) × (Nat → Int) × (Nat → Int) × Int)) :=
  gd (inI t0) <|
  gd (inI t1) <|
  if t1 ≤ t0 then
    some (1, (x5, m_choiceWord, m_choiceEnding, m_choiceCost, m_choices))
  else
    (m_X9_costOf x2 x3 x4 x5 m_itsClass m_count m_endClass m_endPrice m_guess m_base m_table).bind fun r_78 =>
    (m_X9_kindOf x4 m_kind).bind fun r_88 =>
    (m_X9_leastAhead x2 r_88 m_steps m_pairs m_ahead).bind fun r_91 =>
    (m_X9_kindOf x4 m_kind).bind fun r_104 =>
    (m_X9_at x3 r_104).bind fun r_107 =>
    gd (0 ≤ r_107 ∧ r_107 < 370) <|
    vl (m_rest (Int.toNat r_107)) fun x8_111 =>
    gd (inI r_78) <|
    if 134217728 ≤ r_78 then
      vl (x5 + 1) fun x5_162 =>
      some (0, (x5_162, m_choiceWord, m_choiceEnding, m_choiceCost, m_choices))
    else
      gd (inI r_91) <|
      if 134217728 ≤ r_91 then
        vl (x5 + 1) fun x5_162_v2 =>
        some (0, (x5_162_v2, m_choiceWord, m_choiceEnding, m_choiceCost, m_choices))
      else
        gd (inI x8_111) <|
        if 134217728 ≤ x8_111 then
          vl (x5 + 1) fun x5_162_v3 =>
          some (0, (x5_162_v3, m_choiceWord, m_choiceEnding, m_choiceCost, m_choices))
        else
          (m_X9_isLet x2 x3 m_n m_breaks).bind fun r_137 =>
          gd (inI r_137) <|
          if r_137 = 0 then
            vl (x5 + 1) fun x5_162_v5 =>
            some (0, (x5_162_v5, m_choiceWord, m_choiceEnding, m_choiceCost, m_choices))
          else
            (m_X9_put x4 x5 ((r_78 + r_91) + x8_111) m_choiceWord m_choiceEnding m_choiceCost m_choices).bind fun (m_choiceWord_159, m_choiceEnding_159, m_choiceCost_159, m_choices_159) =>
            vl (x5 + 1) fun x5_162_v4 =>
            some (0, (x5_162_v4, m_choiceWord_159, m_choiceEnding_159, m_choiceCost_159, m_choices_159))
def m_X9_choose0_51 (x2 : Int) (x3 : Int) (x4 : Int) (x5 : Int) (m_kind : Nat → Int) (m_itsClass : Nat → Int) (m_count : Nat → Int) (m_endClass : Nat → Int) (m_endPrice : Nat → Int) (m_words : Int) (m_endings : Int) (m_guess : Int) (m_base : Int) (m_steps : Nat → Int) (m_pairs : Nat → Int) (m_n : Int) (m_breaks : Nat → Int) (m_table : Nat → Int) (m_rest : Nat → Int) (m_ahead : Nat → Int) (m_partFrom : Nat → Int) (m_partTo : Nat → Int) (m_choiceWord : Nat → Int) (m_choiceEnding : Nat → Int) (m_choiceCost : Nat → Int) (m_choices : Int) : Option (Nat × (Int × (Nat → Int) × (Nat → Int) × (Nat → Int) × Int)) :=
  gd (inI x4) <|
  if x4 = 60 then
    m_X9_choose0_68 x2 x3 x4 x5 x5 0 m_kind m_itsClass m_count m_endClass m_endPrice m_words m_endings m_guess m_base m_steps m_pairs m_n m_breaks m_table m_rest m_ahead m_partFrom m_partTo m_choiceWord m_choiceEnding m_choiceCost m_choices
  else
    m_X9_choose0_68 x2 x3 x4 x5 x5 m_endings m_kind m_itsClass m_count m_endClass m_endPrice m_words m_endings m_guess m_base m_steps m_pairs m_n m_breaks m_table m_rest m_ahead m_partFrom m_partTo m_choiceWord m_choiceEnding m_choiceCost m_choices
def m_X9_choose0_48 (x2 : Int) (x3 : Int) (x4 : Int) (m_kind : Nat → Int) (m_itsClass : Nat → Int) (m_count : Nat → Int) (m_endClass : Nat → Int) (m_endPrice : Nat → Int) (m_words : Int) (m_endings : Int) (m_guess : Int) (m_base : Int) (m_steps : Nat → Int) (m_pairs : Nat → Int) (m_n : Int) (m_breaks : Nat → Int) (m_table : Nat → Int) (m_rest : Nat → Int) (m_ahead : Nat → Int) (m_partFrom : Nat → Int) (m_partTo : Nat → Int) (m_choiceWord : Nat → Int) (m_choiceEnding : Nat → Int) (m_choiceCost : Nat → Int) (m_choices : Int) : Option (Nat × (Int × (Nat → Int) × (Nat → Int) × (Nat → Int) × Int)) :=
  (zloop (fun a => m_X9_choose0_51 x2 x3 x4 a.1 m_kind m_itsClass m_count m_endClass m_endPrice m_words m_endings m_guess m_base m_steps m_pairs m_n m_breaks m_table m_rest m_ahead m_partFrom m_partTo a.2.1 a.2.2.1 a.2.2.2.1 a.2.2.2.2) FU ((-1), m_choiceWord, m_choiceEnding, m_choiceCost, m_choices)).bind fun (t_51, x5_51, m_choiceWord_51, m_choiceEnding_51, m_choiceCost_51, m_choices_51) =>
  vl (x4 + 1) fun x4_168_v2 =>
  some (0, (x4_168_v2, m_choiceWord_51, m_choiceEnding_51, m_choiceCost_51, m_choices_51))
def m_X9_choose0_22 (x2 : Int) (x3 : Int) (x4 : Int) (m_kind : Nat → Int) (m_itsClass : Nat → Int) (m_count : Nat → Int) (m_endClass : Nat → Int) (m_endPrice : Nat → Int) (m_words : Int) (m_endings : Int) (m_guess : Int) (m_base : Int) (m_steps : Nat → Int) (m_pairs : Nat → Int) (m_n : Int) (m_breaks : Nat → Int) (m_table : Nat → Int) (m_rest : Nat → Int) (m_ahead : Nat → Int) (m_partFrom : Nat → Int) (m_partTo : Nat → Int) (m_choiceWord : Nat → Int) (m_choiceEnding : Nat → Int) (m_choiceCost : Nat → Int) (m_choices : Int) : Option (Nat × (Int × (Nat → Int) × (Nat → Int) × (Nat → Int) × Int)) :=
  gd (inI x4) <|
  if 60 < x4 then
    some (1, (x4, m_choiceWord, m_choiceEnding, m_choiceCost, m_choices))
  else
    gd (inI m_words) <|
    if x4 < m_words then
      m_X9_choose0_48 x2 x3 x4 m_kind m_itsClass m_count m_endClass m_endPrice m_words m_endings m_guess m_base m_steps m_pairs m_n m_breaks m_table m_rest m_ahead m_partFrom m_partTo m_choiceWord m_choiceEnding m_choiceCost m_choices
    else
      if 60 ≤ x4 then
        m_X9_choose0_48 x2 x3 x4 m_kind m_itsClass m_count m_endClass m_endPrice m_words m_endings m_guess m_base m_steps m_pairs m_n m_breaks m_table m_rest m_ahead m_partFrom m_partTo m_choiceWord m_choiceEnding m_choiceCost m_choices
      else
        vl (x4 + 1) fun x4_168 =>
        some (0, (x4_168, m_choiceWord, m_choiceEnding, m_choiceCost, m_choices))
def m_X9_choose0 (x1 : Int) (m_kind : Nat → Int) (m_itsClass : Nat → Int) (m_count : Nat → Int) (m_endClass : Nat → Int) (m_endPrice : Nat → Int) (m_words : Int) (m_endings : Int) (m_guess : Int) (m_base : Int) (m_steps : Nat → Int) (m_pairs : Nat → Int) (m_n : Int) (m_breaks : Nat → Int) (m_table : Nat → Int) (m_rest : Nat → Int) (m_ahead : Nat → Int) (m_partFrom : Nat → Int) (m_partTo : Nat → Int) (m_choiceWord : Nat → Int) (m_choiceEnding : Nat → Int) (m_choiceCost : Nat → Int) (m_choices : Int) : Option ((Nat → Int) × (Nat → Int) × (Nat → Int) × Int) :=
  gd (0 ≤ x1 ∧ x1 < 36) <|
  vl (m_partFrom (Int.toNat x1)) fun x2_11 =>
  gd (0 ≤ x1 ∧ x1 < 36) <|
  vl (m_partTo (Int.toNat x1)) fun x3_18 =>
  (zloop (fun a => m_X9_choose0_22 x2_11 x3_18 a.1 m_kind m_itsClass m_count m_endClass m_endPrice m_words m_endings m_guess m_base m_steps m_pairs m_n m_breaks m_table m_rest m_ahead m_partFrom m_partTo a.2.1 a.2.2.1 a.2.2.2.1 a.2.2.2.2) FU (0, m_choiceWord, m_choiceEnding, m_choiceCost, 0)).bind fun (t_22, x4_22, m_choiceWord_22, m_choiceEnding_22, m_choiceCost_22, m_choices_22) =>
  some (m_choiceWord_22, m_choiceEnding_22, m_choiceCost_22, m_choices_22)
def m_X9_choices_21 (m_code : Int) (m_spellMany : Nat → Int) (m_spellPrice : Nat → Int) (m_spell : Nat → Int) (m_sounds : Nat → Int) (m_endSounds : Nat → Int) (m_kind : Nat → Int) (m_itsClass : Nat → Int) (m_count : Nat → Int) (m_endClass : Nat → Int) (m_endPrice : Nat → Int) (m_words : Int) (m_endings : Int) (m_slip : Int) (m_guess : Int) (m_base : Int) (m_steps : Nat → Int) (m_pairs : Nat → Int) (m_n : Int) (m_fixedMany : Int) (m_line : Nat → Int) (m_breaks : Nat → Int) (m_fixedFrom : Nat → Int) (m_fixedTo : Nat → Int) (m_fixedWord : Nat → Int) (m_fixedEnding : Nat → Int) (m_isRead : Int) (m_isMade : Int) (m_table : Nat → Int) (m_reach : Nat → Int) (m_next : Nat → Int) (m_rest : Nat → Int) (m_ahead : Nat → Int) (m_parts : Int) (m_total : Int) (m_partFrom : Nat → Int) (m_partTo : Nat → Int) (m_partWord : Nat → Int) (m_partEnding : Nat → Int) (m_found : Int) (m_from0 : Int) (m_kind0 : Int) (m_choiceWord : Nat → Int) (m_choiceEnding : Nat → Int) (m_choiceCost : Nat → Int) (m_choices : Int) : Option (Int × Int × Int × Int × (Nat → Int) × (Nat → Int) × (Nat → Int) × (Nat → Int) × (Nat → Int) × Int × Int × (Nat → Int) × (Nat → Int) × (Nat → Int) × (Nat → Int) × Int × Int × Int × (Nat → Int) × (Nat → Int) × (Nat → Int) × Int) :=
  (m_X9_fail m_code).bind fun (r_22, m_code_22) =>
  some (r_22, m_code_22, m_isRead, m_isMade, m_table, m_reach, m_next, m_rest, m_ahead, m_parts, m_total, m_partFrom, m_partTo, m_partWord, m_partEnding, m_found, m_from0, m_kind0, m_choiceWord, m_choiceEnding, m_choiceCost, m_choices)
def m_X9_choices (x1 : Int) (m_code : Int) (m_spellMany : Nat → Int) (m_spellPrice : Nat → Int) (m_spell : Nat → Int) (m_sounds : Nat → Int) (m_endSounds : Nat → Int) (m_kind : Nat → Int) (m_itsClass : Nat → Int) (m_count : Nat → Int) (m_endClass : Nat → Int) (m_endPrice : Nat → Int) (m_words : Int) (m_endings : Int) (m_slip : Int) (m_guess : Int) (m_base : Int) (m_steps : Nat → Int) (m_pairs : Nat → Int) (m_n : Int) (m_fixedMany : Int) (m_line : Nat → Int) (m_breaks : Nat → Int) (m_fixedFrom : Nat → Int) (m_fixedTo : Nat → Int) (m_fixedWord : Nat → Int) (m_fixedEnding : Nat → Int) (m_isRead : Int) (m_isMade : Int) (m_table : Nat → Int) (m_reach : Nat → Int) (m_next : Nat → Int) (m_rest : Nat → Int) (m_ahead : Nat → Int) (m_parts : Int) (m_total : Int) (m_partFrom : Nat → Int) (m_partTo : Nat → Int) (m_partWord : Nat → Int) (m_partEnding : Nat → Int) (m_found : Int) (m_from0 : Int) (m_kind0 : Int) (m_choiceWord : Nat → Int) (m_choiceEnding : Nat → Int) (m_choiceCost : Nat → Int) (m_choices : Int) : Option (Int × Int × Int × Int × (Nat → Int) × (Nat → Int) × (Nat → Int) × (Nat → Int) × (Nat → Int) × Int × Int × (Nat → Int) × (Nat → Int) × (Nat → Int) × (Nat → Int) × Int × Int × Int × (Nat → Int) × (Nat → Int) × (Nat → Int) × Int) :=
  (m_X9_read m_spellMany m_spellPrice m_spell m_sounds m_endSounds m_kind m_itsClass m_count m_endClass m_endPrice m_words m_endings m_slip m_guess m_base m_steps m_pairs m_n m_fixedMany m_line m_breaks m_fixedFrom m_fixedTo m_fixedWord m_fixedEnding m_isRead m_isMade m_table m_reach m_next m_rest m_ahead m_parts m_total m_partFrom m_partTo m_partWord m_partEnding m_found m_from0 m_kind0).bind fun (m_isRead_6, m_isMade_6, m_table_6, m_reach_6, m_next_6, m_rest_6, m_ahead_6, m_parts_6, m_total_6, m_partFrom_6, m_partTo_6, m_partWord_6, m_partEnding_6, m_found_6, m_from0_6, m_kind0_6) =>
  gd (inI x1) <|
  if x1 < 0 then
    m_X9_choices_21 0 m_spellMany m_spellPrice m_spell m_sounds m_endSounds m_kind m_itsClass m_count m_endClass m_endPrice m_words m_endings m_slip m_guess m_base m_steps m_pairs m_n m_fixedMany m_line m_breaks m_fixedFrom m_fixedTo m_fixedWord m_fixedEnding m_isRead_6 m_isMade_6 m_table_6 m_reach_6 m_next_6 m_rest_6 m_ahead_6 m_parts_6 m_total_6 m_partFrom_6 m_partTo_6 m_partWord_6 m_partEnding_6 m_found_6 m_from0_6 m_kind0_6 m_choiceWord m_choiceEnding m_choiceCost m_choices
  else
    gd (inI m_parts_6) <|
    if x1 < m_parts_6 then
      (m_X9_choose0 x1 m_kind m_itsClass m_count m_endClass m_endPrice m_words m_endings m_guess m_base m_steps m_pairs m_n m_breaks m_table_6 m_rest_6 m_ahead_6 m_partFrom_6 m_partTo_6 m_choiceWord m_choiceEnding m_choiceCost m_choices).bind fun (m_choiceWord_28, m_choiceEnding_28, m_choiceCost_28, m_choices_28) =>
      some (m_choices_28, 0, m_isRead_6, m_isMade_6, m_table_6, m_reach_6, m_next_6, m_rest_6, m_ahead_6, m_parts_6, m_total_6, m_partFrom_6, m_partTo_6, m_partWord_6, m_partEnding_6, m_found_6, m_from0_6, m_kind0_6, m_choiceWord_28, m_choiceEnding_28, m_choiceCost_28, m_choices_28)
    else
      m_X9_choices_21 0 m_spellMany m_spellPrice m_spell m_sounds m_endSounds m_kind m_itsClass m_count m_endClass m_endPrice m_words m_endings m_slip m_guess m_base m_steps m_pairs m_n m_fixedMany m_line m_breaks m_fixedFrom m_fixedTo m_fixedWord m_fixedEnding m_isRead_6 m_isMade_6 m_table_6 m_reach_6 m_next_6 m_rest_6 m_ahead_6 m_parts_6 m_total_6 m_partFrom_6 m_partTo_6 m_partWord_6 m_partEnding_6 m_found_6 m_from0_6 m_kind0_6 m_choiceWord m_choiceEnding m_choiceCost m_choices
def m_X9_choice_30 (m_code : Int) (m_spellMany : Nat → Int) (m_spellPrice : Nat → Int) (m_spell : Nat → Int) (m_sounds : Nat → Int) (m_endSounds : Nat → Int) (m_kind : Nat → Int) (m_itsClass : Nat → Int) (m_count : Nat → Int) (m_endClass : Nat → Int) (m_endPrice : Nat → Int) (m_words : Int) (m_endings : Int) (m_slip : Int) (m_guess : Int) (m_base : Int) (m_steps : Nat → Int) (m_pairs : Nat → Int) (m_n : Int) (m_fixedMany : Int) (m_line : Nat → Int) (m_breaks : Nat → Int) (m_fixedFrom : Nat → Int) (m_fixedTo : Nat → Int) (m_fixedWord : Nat → Int) (m_fixedEnding : Nat → Int) (m_isRead : Int) (m_isMade : Int) (m_table : Nat → Int) (m_reach : Nat → Int) (m_next : Nat → Int) (m_rest : Nat → Int) (m_ahead : Nat → Int) (m_parts : Int) (m_total : Int) (m_partFrom : Nat → Int) (m_partTo : Nat → Int) (m_partWord : Nat → Int) (m_partEnding : Nat → Int) (m_found : Int) (m_from0 : Int) (m_kind0 : Int) (m_choiceWord : Nat → Int) (m_choiceEnding : Nat → Int) (m_choiceCost : Nat → Int) (m_choices : Int) : Option (Int × Int × Int × Int × (Nat → Int) × (Nat → Int) × (Nat → Int) × (Nat → Int) × (Nat → Int) × Int × Int × (Nat → Int) × (Nat → Int) × (Nat → Int) × (Nat → Int) × Int × Int × Int × (Nat → Int) × (Nat → Int) × (Nat → Int) × Int) :=
  (m_X9_fail m_code).bind fun (r_31, m_code_31) =>
  some (r_31, m_code_31, m_isRead, m_isMade, m_table, m_reach, m_next, m_rest, m_ahead, m_parts, m_total, m_partFrom, m_partTo, m_partWord, m_partEnding, m_found, m_from0, m_kind0, m_choiceWord, m_choiceEnding, m_choiceCost, m_choices)
def m_X9_choice_52 (m_code : Int) (m_spellMany : Nat → Int) (m_spellPrice : Nat → Int) (m_spell : Nat → Int) (m_sounds : Nat → Int) (m_endSounds : Nat → Int) (m_kind : Nat → Int) (m_itsClass : Nat → Int) (m_count : Nat → Int) (m_endClass : Nat → Int) (m_endPrice : Nat → Int) (m_words : Int) (m_endings : Int) (m_slip : Int) (m_guess : Int) (m_base : Int) (m_steps : Nat → Int) (m_pairs : Nat → Int) (m_n : Int) (m_fixedMany : Int) (m_line : Nat → Int) (m_breaks : Nat → Int) (m_fixedFrom : Nat → Int) (m_fixedTo : Nat → Int) (m_fixedWord : Nat → Int) (m_fixedEnding : Nat → Int) (m_isRead : Int) (m_isMade : Int) (m_table : Nat → Int) (m_reach : Nat → Int) (m_next : Nat → Int) (m_rest : Nat → Int) (m_ahead : Nat → Int) (m_parts : Int) (m_total : Int) (m_partFrom : Nat → Int) (m_partTo : Nat → Int) (m_partWord : Nat → Int) (m_partEnding : Nat → Int) (m_found : Int) (m_from0 : Int) (m_kind0 : Int) (m_choiceWord : Nat → Int) (m_choiceEnding : Nat → Int) (m_choiceCost : Nat → Int) (m_choices : Int) : Option (Int × Int × Int × Int × (Nat → Int) × (Nat → Int) × (Nat → Int) × (Nat → Int) × (Nat → Int) × Int × Int × (Nat → Int) × (Nat → Int) × (Nat → Int) × (Nat → Int) × Int × Int × Int × (Nat → Int) × (Nat → Int) × (Nat → Int) × Int) :=
  (m_X9_fail m_code).bind fun (r_53, m_code_53) =>
  some (r_53, m_code_53, m_isRead, m_isMade, m_table, m_reach, m_next, m_rest, m_ahead, m_parts, m_total, m_partFrom, m_partTo, m_partWord, m_partEnding, m_found, m_from0, m_kind0, m_choiceWord, m_choiceEnding, m_choiceCost, m_choices)
def m_X9_choice (x1 : Int) (x2 : Int) (x3 : Int) (m_code : Int) (m_spellMany : Nat → Int) (m_spellPrice : Nat → Int) (m_spell : Nat → Int) (m_sounds : Nat → Int) (m_endSounds : Nat → Int) (m_kind : Nat → Int) (m_itsClass : Nat → Int) (m_count : Nat → Int) (m_endClass : Nat → Int) (m_endPrice : Nat → Int) (m_words : Int) (m_endings : Int) (m_slip : Int) (m_guess : Int) (m_base : Int) (m_steps : Nat → Int) (m_pairs : Nat → Int) (m_n : Int) (m_fixedMany : Int) (m_line : Nat → Int) (m_breaks : Nat → Int) (m_fixedFrom : Nat → Int) (m_fixedTo : Nat → Int) (m_fixedWord : Nat → Int) (m_fixedEnding : Nat → Int) (m_isRead : Int) (m_isMade : Int) (m_table : Nat → Int) (m_reach : Nat → Int) (m_next : Nat → Int) (m_rest : Nat → Int) (m_ahead : Nat → Int) (m_parts : Int) (m_total : Int) (m_partFrom : Nat → Int) (m_partTo : Nat → Int) (m_partWord : Nat → Int) (m_partEnding : Nat → Int) (m_found : Int) (m_from0 : Int) (m_kind0 : Int) (m_choiceWord : Nat → Int) (m_choiceEnding : Nat → Int) (m_choiceCost : Nat → Int) (m_choices : Int) : Option (Int × Int × Int × Int × (Nat → Int) × (Nat → Int) × (Nat → Int) × (Nat → Int) × (Nat → Int) × Int × Int × (Nat → Int) × (Nat → Int) × (Nat → Int) × (Nat → Int) × Int × Int × Int × (Nat → Int) × (Nat → Int) × (Nat → Int) × Int) :=
  (m_X9_read m_spellMany m_spellPrice m_spell m_sounds m_endSounds m_kind m_itsClass m_count m_endClass m_endPrice m_words m_endings m_slip m_guess m_base m_steps m_pairs m_n m_fixedMany m_line m_breaks m_fixedFrom m_fixedTo m_fixedWord m_fixedEnding m_isRead m_isMade m_table m_reach m_next m_rest m_ahead m_parts m_total m_partFrom m_partTo m_partWord m_partEnding m_found m_from0 m_kind0).bind fun (m_isRead_6, m_isMade_6, m_table_6, m_reach_6, m_next_6, m_rest_6, m_ahead_6, m_parts_6, m_total_6, m_partFrom_6, m_partTo_6, m_partWord_6, m_partEnding_6, m_found_6, m_from0_6, m_kind0_6) =>
  gd (inI x1) <|
  if x1 < 0 then
    m_X9_choice_30 0 m_spellMany m_spellPrice m_spell m_sounds m_endSounds m_kind m_itsClass m_count m_endClass m_endPrice m_words m_endings m_slip m_guess m_base m_steps m_pairs m_n m_fixedMany m_line m_breaks m_fixedFrom m_fixedTo m_fixedWord m_fixedEnding m_isRead_6 m_isMade_6 m_table_6 m_reach_6 m_next_6 m_rest_6 m_ahead_6 m_parts_6 m_total_6 m_partFrom_6 m_partTo_6 m_partWord_6 m_partEnding_6 m_found_6 m_from0_6 m_kind0_6 m_choiceWord m_choiceEnding m_choiceCost m_choices
  else
    gd (inI m_parts_6) <|
    if m_parts_6 ≤ x1 then
      m_X9_choice_30 0 m_spellMany m_spellPrice m_spell m_sounds m_endSounds m_kind m_itsClass m_count m_endClass m_endPrice m_words m_endings m_slip m_guess m_base m_steps m_pairs m_n m_fixedMany m_line m_breaks m_fixedFrom m_fixedTo m_fixedWord m_fixedEnding m_isRead_6 m_isMade_6 m_table_6 m_reach_6 m_next_6 m_rest_6 m_ahead_6 m_parts_6 m_total_6 m_partFrom_6 m_partTo_6 m_partWord_6 m_partEnding_6 m_found_6 m_from0_6 m_kind0_6 m_choiceWord m_choiceEnding m_choiceCost m_choices
    else
      gd (inI x3) <|
      if x3 < 0 then
        m_X9_choice_30 0 m_spellMany m_spellPrice m_spell m_sounds m_endSounds m_kind m_itsClass m_count m_endClass m_endPrice m_words m_endings m_slip m_guess m_base m_steps m_pairs m_n m_fixedMany m_line m_breaks m_fixedFrom m_fixedTo m_fixedWord m_fixedEnding m_isRead_6 m_isMade_6 m_table_6 m_reach_6 m_next_6 m_rest_6 m_ahead_6 m_parts_6 m_total_6 m_partFrom_6 m_partTo_6 m_partWord_6 m_partEnding_6 m_found_6 m_from0_6 m_kind0_6 m_choiceWord m_choiceEnding m_choiceCost m_choices
      else
        if x3 ≤ 2 then
          (m_X9_choose0 x1 m_kind m_itsClass m_count m_endClass m_endPrice m_words m_endings m_guess m_base m_steps m_pairs m_n m_breaks m_table_6 m_rest_6 m_ahead_6 m_partFrom_6 m_partTo_6 m_choiceWord m_choiceEnding m_choiceCost m_choices).bind fun (m_choiceWord_37, m_choiceEnding_37, m_choiceCost_37, m_choices_37) =>
          gd (inI x2) <|
          if x2 < 0 then
            m_X9_choice_52 0 m_spellMany m_spellPrice m_spell m_sounds m_endSounds m_kind m_itsClass m_count m_endClass m_endPrice m_words m_endings m_slip m_guess m_base m_steps m_pairs m_n m_fixedMany m_line m_breaks m_fixedFrom m_fixedTo m_fixedWord m_fixedEnding m_isRead_6 m_isMade_6 m_table_6 m_reach_6 m_next_6 m_rest_6 m_ahead_6 m_parts_6 m_total_6 m_partFrom_6 m_partTo_6 m_partWord_6 m_partEnding_6 m_found_6 m_from0_6 m_kind0_6 m_choiceWord_37 m_choiceEnding_37 m_choiceCost_37 m_choices_37
          else
            gd (inI m_choices_37) <|
            if x2 < m_choices_37 then
              if x3 = 0 then
                gd (0 ≤ x2 ∧ x2 < 12) <|
                gd (inI (m_choiceWord_37 (Int.toNat x2))) <|
                if (m_choiceWord_37 (Int.toNat x2)) = 60 then
                  some ((-1), 0, m_isRead_6, m_isMade_6, m_table_6, m_reach_6, m_next_6, m_rest_6, m_ahead_6, m_parts_6, m_total_6, m_partFrom_6, m_partTo_6, m_partWord_6, m_partEnding_6, m_found_6, m_from0_6, m_kind0_6, m_choiceWord_37, m_choiceEnding_37, m_choiceCost_37, m_choices_37)
                else
                  gd (0 ≤ x2 ∧ x2 < 12) <|
                  some ((m_choiceWord_37 (Int.toNat x2)), 0, m_isRead_6, m_isMade_6, m_table_6, m_reach_6, m_next_6, m_rest_6, m_ahead_6, m_parts_6, m_total_6, m_partFrom_6, m_partTo_6, m_partWord_6, m_partEnding_6, m_found_6, m_from0_6, m_kind0_6, m_choiceWord_37, m_choiceEnding_37, m_choiceCost_37, m_choices_37)
              else
                if x3 = 1 then
                  gd (0 ≤ x2 ∧ x2 < 12) <|
                  some ((m_choiceEnding_37 (Int.toNat x2)), 0, m_isRead_6, m_isMade_6, m_table_6, m_reach_6, m_next_6, m_rest_6, m_ahead_6, m_parts_6, m_total_6, m_partFrom_6, m_partTo_6, m_partWord_6, m_partEnding_6, m_found_6, m_from0_6, m_kind0_6, m_choiceWord_37, m_choiceEnding_37, m_choiceCost_37, m_choices_37)
                else
                  gd (0 ≤ x2 ∧ x2 < 12) <|
                  some ((m_choiceCost_37 (Int.toNat x2)), 0, m_isRead_6, m_isMade_6, m_table_6, m_reach_6, m_next_6, m_rest_6, m_ahead_6, m_parts_6, m_total_6, m_partFrom_6, m_partTo_6, m_partWord_6, m_partEnding_6, m_found_6, m_from0_6, m_kind0_6, m_choiceWord_37, m_choiceEnding_37, m_choiceCost_37, m_choices_37)
            else
              m_X9_choice_52 0 m_spellMany m_spellPrice m_spell m_sounds m_endSounds m_kind m_itsClass m_count m_endClass m_endPrice m_words m_endings m_slip m_guess m_base m_steps m_pairs m_n m_fixedMany m_line m_breaks m_fixedFrom m_fixedTo m_fixedWord m_fixedEnding m_isRead_6 m_isMade_6 m_table_6 m_reach_6 m_next_6 m_rest_6 m_ahead_6 m_parts_6 m_total_6 m_partFrom_6 m_partTo_6 m_partWord_6 m_partEnding_6 m_found_6 m_from0_6 m_kind0_6 m_choiceWord_37 m_choiceEnding_37 m_choiceCost_37 m_choices_37
        else
          m_X9_choice_30 0 m_spellMany m_spellPrice m_spell m_sounds m_endSounds m_kind m_itsClass m_count m_endClass m_endPrice m_words m_endings m_slip m_guess m_base m_steps m_pairs m_n m_fixedMany m_line m_breaks m_fixedFrom m_fixedTo m_fixedWord m_fixedEnding m_isRead_6 m_isMade_6 m_table_6 m_reach_6 m_next_6 m_rest_6 m_ahead_6 m_parts_6 m_total_6 m_partFrom_6 m_partTo_6 m_partWord_6 m_partEnding_6 m_found_6 m_from0_6 m_kind0_6 m_choiceWord m_choiceEnding m_choiceCost m_choices
def m_X9_keepFixed (x1 : Int) (x2 : Int) (m_fixedFrom : Nat → Int) (m_fixedTo : Nat → Int) (m_fixedWord : Nat → Int) (m_fixedEnding : Nat → Int) : Option ((Nat → Int) × (Nat → Int) × (Nat → Int) × (Nat → Int)) :=
  gd (0 ≤ x1 ∧ x1 < 36) <|
  gd (0 ≤ x2 ∧ x2 < 36) <|
  vl (uz m_fixedFrom (Int.toNat x2) (m_fixedFrom (Int.toNat x1))) fun m_fixedFrom_11 =>
  gd (0 ≤ x1 ∧ x1 < 36) <|
  gd (0 ≤ x2 ∧ x2 < 36) <|
  vl (uz m_fixedTo (Int.toNat x2) (m_fixedTo (Int.toNat x1))) fun m_fixedTo_23 =>
  gd (0 ≤ x1 ∧ x1 < 36) <|
  gd (0 ≤ x2 ∧ x2 < 36) <|
  vl (uz m_fixedWord (Int.toNat x2) (m_fixedWord (Int.toNat x1))) fun m_fixedWord_35 =>
  gd (0 ≤ x1 ∧ x1 < 36) <|
  gd (0 ≤ x2 ∧ x2 < 36) <|
  vl (uz m_fixedEnding (Int.toNat x2) (m_fixedEnding (Int.toNat x1))) fun m_fixedEnding_47 =>
  some (m_fixedFrom_11, m_fixedTo_23, m_fixedWord_35, m_fixedEnding_47)
def m_X9_unfix_39 (x1 : Int) (x2 : Int) (x3 : Int) (x4 : Int) (m_fixedMany : Int) (m_fixedFrom : Nat → Int) (m_fixedTo : Nat → Int) (m_fixedWord : Nat → Int) (m_fixedEnding : Nat → Int) : Option (Nat × (Int × Int × (Nat → Int) × (Nat → Int) × (Nat → Int) × (Nat → Int))) :=
  (m_X9_keepFixed x4 x3 m_fixedFrom m_fixedTo m_fixedWord m_fixedEnding).bind fun (m_fixedFrom_43, m_fixedTo_43, m_fixedWord_43, m_fixedEnding_43) =>
  vl (x3 + 1) fun x3_46 =>
  vl (x4 + 1) fun x4_49_v2 =>
  some (0, (x3_46, x4_49_v2, m_fixedFrom_43, m_fixedTo_43, m_fixedWord_43, m_fixedEnding_43))
def m_X9_unfix_5 (x1 : Int) (x2 : Int) (x3 : Int) (x4 : Int) (m_fixedMany : Int) (m_fixedFrom : Nat → Int) (m_fixedTo : Nat → Int) (m_fixedWord : Nat → Int) (m_fixedEnding : Nat → Int) : Option (Nat × (Int × Int × (Nat → Int) × (Nat → Int) × (Nat → Int) × (Nat → Int))) :=
  gd (inI x4) <|
  gd (inI m_fixedMany) <|
  if m_fixedMany ≤ x4 then
    some (1, (x3, x4, m_fixedFrom, m_fixedTo, m_fixedWord, m_fixedEnding))
  else
    gd (0 ≤ x4 ∧ x4 < 36) <|
    gd (inI (m_fixedFrom (Int.toNat x4))) <|
    gd (inI x2) <|
    if x2 ≤ (m_fixedFrom (Int.toNat x4)) then
      m_X9_unfix_39 x1 x2 x3 x4 m_fixedMany m_fixedFrom m_fixedTo m_fixedWord m_fixedEnding
    else
      gd (0 ≤ x4 ∧ x4 < 36) <|
      gd (inI (m_fixedTo (Int.toNat x4))) <|
      gd (inI x1) <|
      if (m_fixedTo (Int.toNat x4)) ≤ x1 then
        m_X9_unfix_39 x1 x2 x3 x4 m_fixedMany m_fixedFrom m_fixedTo m_fixedWord m_fixedEnding
      else
        vl (x4 + 1) fun x4_49 =>
        some (0, (x3, x4_49, m_fixedFrom, m_fixedTo, m_fixedWord, m_fixedEnding))
def m_X9_unfix (x1 : Int) (x2 : Int) (m_fixedMany : Int) (m_fixedFrom : Nat → Int) (m_fixedTo : Nat → Int) (m_fixedWord : Nat → Int) (m_fixedEnding : Nat → Int) : Option (Int × (Nat → Int) × (Nat → Int) × (Nat → Int) × (Nat → Int)) :=
  (zloop (fun a => m_X9_unfix_5 x1 x2 a.1 a.2.1 m_fixedMany a.2.2.1 a.2.2.2.1 a.2.2.2.2.1 a.2.2.2.2.2) FU (0, 0, m_fixedFrom, m_fixedTo, m_fixedWord, m_fixedEnding)).bind fun (t_5, x3_5, x4_5, m_fixedFrom_5, m_fixedTo_5, m_fixedWord_5, m_fixedEnding_5) =>
  some (x3_5, m_fixedFrom_5, m_fixedTo_5, m_fixedWord_5, m_fixedEnding_5)
def m_X9_unfixEnds_4 (x1 : Int) (x2 : Int) (x3 : Int) (m_fixedMany : Int) (m_fixedFrom : Nat → Int) (m_fixedTo : Nat → Int) (m_fixedWord : Nat → Int) (m_fixedEnding : Nat → Int) : Option (Nat × (Int × Int × (Nat → Int) × (Nat → Int) × (Nat → Int) × (Nat → Int))) :=
  gd (inI x3) <|
  gd (inI m_fixedMany) <|
  if m_fixedMany ≤ x3 then
    some (1, (x2, x3, m_fixedFrom, m_fixedTo, m_fixedWord, m_fixedEnding))
  else
    gd (0 ≤ x3 ∧ x3 < 36) <|
    gd (inI (m_fixedFrom (Int.toNat x3))) <|
    gd (inI x1) <|
    if (m_fixedFrom (Int.toNat x3)) = x1 then
      vl (x3 + 1) fun x3_44 =>
      some (0, (x2, x3_44, m_fixedFrom, m_fixedTo, m_fixedWord, m_fixedEnding))
    else
      gd (0 ≤ x3 ∧ x3 < 36) <|
      gd (inI (m_fixedTo (Int.toNat x3))) <|
      if (m_fixedTo (Int.toNat x3)) = x1 then
        vl (x3 + 1) fun x3_44_v3 =>
        some (0, (x2, x3_44_v3, m_fixedFrom, m_fixedTo, m_fixedWord, m_fixedEnding))
      else
        (m_X9_keepFixed x3 x2 m_fixedFrom m_fixedTo m_fixedWord m_fixedEnding).bind fun (m_fixedFrom_38, m_fixedTo_38, m_fixedWord_38, m_fixedEnding_38) =>
        vl (x2 + 1) fun x2_41 =>
        vl (x3 + 1) fun x3_44_v2 =>
        some (0, (x2_41, x3_44_v2, m_fixedFrom_38, m_fixedTo_38, m_fixedWord_38, m_fixedEnding_38))
def m_X9_unfixEnds (x1 : Int) (m_fixedMany : Int) (m_fixedFrom : Nat → Int) (m_fixedTo : Nat → Int) (m_fixedWord : Nat → Int) (m_fixedEnding : Nat → Int) : Option (Int × (Nat → Int) × (Nat → Int) × (Nat → Int) × (Nat → Int)) :=
  (zloop (fun a => m_X9_unfixEnds_4 x1 a.1 a.2.1 m_fixedMany a.2.2.1 a.2.2.2.1 a.2.2.2.2.1 a.2.2.2.2.2) FU (0, 0, m_fixedFrom, m_fixedTo, m_fixedWord, m_fixedEnding)).bind fun (t_4, x2_4, x3_4, m_fixedFrom_4, m_fixedTo_4, m_fixedWord_4, m_fixedEnding_4) =>
  some (x2_4, m_fixedFrom_4, m_fixedTo_4, m_fixedWord_4, m_fixedEnding_4)
def m_X9_unfixOver_35 (x1 : Int) (x2 : Int) (x3 : Int) (m_fixedMany : Int) (m_fixedFrom : Nat → Int) (m_fixedTo : Nat → Int) (m_fixedWord : Nat → Int) (m_fixedEnding : Nat → Int) : Option (Nat × (Int × Int × (Nat → Int) × (Nat → Int) × (Nat → Int) × (Nat → Int))) :=
  (m_X9_keepFixed x3 x2 m_fixedFrom m_fixedTo m_fixedWord m_fixedEnding).bind fun (m_fixedFrom_38, m_fixedTo_38, m_fixedWord_38, m_fixedEnding_38) =>
  vl (x2 + 1) fun x2_41 =>
  vl (x3 + 1) fun x3_44_v2 =>
  some (0, (x2_41, x3_44_v2, m_fixedFrom_38, m_fixedTo_38, m_fixedWord_38, m_fixedEnding_38))
def m_X9_unfixOver_4 (x1 : Int) (x2 : Int) (x3 : Int) (m_fixedMany : Int) (m_fixedFrom : Nat → Int) (m_fixedTo : Nat → Int) (m_fixedWord : Nat → Int) (m_fixedEnding : Nat → Int) : Option (Nat × (Int × Int × (Nat → Int) × (Nat → Int) × (Nat → Int) × (Nat → Int))) :=
  gd (inI x3) <|
  gd (inI m_fixedMany) <|
  if m_fixedMany ≤ x3 then
    some (1, (x2, x3, m_fixedFrom, m_fixedTo, m_fixedWord, m_fixedEnding))
  else
    gd (0 ≤ x3 ∧ x3 < 36) <|
    gd (inI (m_fixedFrom (Int.toNat x3))) <|
    gd (inI x1) <|
    if x1 ≤ (m_fixedFrom (Int.toNat x3)) then
      m_X9_unfixOver_35 x1 x2 x3 m_fixedMany m_fixedFrom m_fixedTo m_fixedWord m_fixedEnding
    else
      gd (0 ≤ x3 ∧ x3 < 36) <|
      gd (inI (m_fixedTo (Int.toNat x3))) <|
      if (m_fixedTo (Int.toNat x3)) ≤ x1 then
        m_X9_unfixOver_35 x1 x2 x3 m_fixedMany m_fixedFrom m_fixedTo m_fixedWord m_fixedEnding
      else
        vl (x3 + 1) fun x3_44 =>
        some (0, (x2, x3_44, m_fixedFrom, m_fixedTo, m_fixedWord, m_fixedEnding))
def m_X9_unfixOver (x1 : Int) (m_fixedMany : Int) (m_fixedFrom : Nat → Int) (m_fixedTo : Nat → Int) (m_fixedWord : Nat → Int) (m_fixedEnding : Nat → Int) : Option (Int × (Nat → Int) × (Nat → Int) × (Nat → Int) × (Nat → Int)) :=
  (zloop (fun a => m_X9_unfixOver_4 x1 a.1 a.2.1 m_fixedMany a.2.2.1 a.2.2.2.1 a.2.2.2.2.1 a.2.2.2.2.2) FU (0, 0, m_fixedFrom, m_fixedTo, m_fixedWord, m_fixedEnding)).bind fun (t_4, x2_4, x3_4, m_fixedFrom_4, m_fixedTo_4, m_fixedWord_4, m_fixedEnding_4) =>
  some (x2_4, m_fixedFrom_4, m_fixedTo_4, m_fixedWord_4, m_fixedEnding_4)
def m_X9_choose_170 (x4 : Int) (x5 : Int) (m_code : Int) (m_spellMany : Nat → Int) (m_spellPrice : Nat → Int) (m_spell : Nat → Int) (m_sounds : Nat → Int) (m_endSounds : Nat → Int) (m_kind : Nat → Int) (m_itsClass : Nat → Int) (m_count : Nat → Int) (m_endClass : Nat → Int) (m_endPrice : Nat → Int) (m_words : Int) (m_endings : Int) (m_slip : Int) (m_guess : Int) (m_base : Int) (m_steps : Nat → Int) (m_pairs : Nat → Int) (m_n : Int) (m_fixedMany : Int) (m_line : Nat → Int) (m_breaks : Nat → Int) (m_fixedFrom : Nat → Int) (m_fixedTo : Nat → Int) (m_fixedWord : Nat → Int) (m_fixedEnding : Nat → Int) (m_acts : Int) (m_oldN : Nat → Int) (m_oldFixed : Nat → Int) (m_oldLine : Nat → Int) (m_oldBreaks : Nat → Int) (m_oldFrom : Nat → Int) (m_oldTo : Nat → Int) (m_oldWord : Nat → Int) (m_oldEnding : Nat → Int) (m_isRead : Int) (m_isMade : Int) (m_table : Nat → Int) (m_reach : Nat → Int) (m_next : Nat → Int) (m_rest : Nat → Int) (m_ahead : Nat → Int) (m_parts : Int) (m_total : Int) (m_partFrom : Nat → Int) (m_partTo : Nat → Int) (m_partWord : Nat → Int) (m_partEnding : Nat → Int) (m_found : Int) (m_from0 : Int) (m_kind0 : Int) (m_choiceWord : Nat → Int) (m_choiceEnding : Nat → Int) (m_choiceCost : Nat → Int) (m_choices : Int) : Option (Nat × (Int × (Nat → Int))) :=
  gd (inI x5) <|
  gd (inI x4) <|
  if x4 ≤ x5 then
    some (1, (x5, m_breaks))
  else
    gd (0 ≤ x5 ∧ x5 < 37) <|
    vl (uz m_breaks (Int.toNat x5) 2) fun m_breaks_184 =>
    vl (x5 + 1) fun x5_185 =>
    some (0, (x5_185, m_breaks_184))
def m_X9_choose_165 (x3 : Int) (x4 : Int) (m_code : Int) (m_spellMany : Nat → Int) (m_spellPrice : Nat → Int) (m_spell : Nat → Int) (m_sounds : Nat → Int) (m_endSounds : Nat → Int) (m_kind : Nat → Int) (m_itsClass : Nat → Int) (m_count : Nat → Int) (m_endClass : Nat → Int) (m_endPrice : Nat → Int) (m_words : Int) (m_endings : Int) (m_slip : Int) (m_guess : Int) (m_base : Int) (m_steps : Nat → Int) (m_pairs : Nat → Int) (m_n : Int) (m_fixedMany : Int) (m_line : Nat → Int) (m_breaks : Nat → Int) (m_fixedFrom : Nat → Int) (m_fixedTo : Nat → Int) (m_fixedWord : Nat → Int) (m_fixedEnding : Nat → Int) (m_acts : Int) (m_oldN : Nat → Int) (m_oldFixed : Nat → Int) (m_oldLine : Nat → Int) (m_oldBreaks : Nat → Int) (m_oldFrom : Nat → Int) (m_oldTo : Nat → Int) (m_oldWord : Nat → Int) (m_oldEnding : Nat → Int) (m_isRead : Int) (m_isMade : Int) (m_table : Nat → Int) (m_reach : Nat → Int) (m_next : Nat → Int) (m_rest : Nat → Int) (m_ahead : Nat → Int) (m_parts : Int) (m_total : Int) (m_partFrom : Nat → Int) (m_partTo : Nat → Int) (m_partWord : Nat → Int) (m_partEnding : Nat → Int) (m_found : Int) (m_from0 : Int) (m_kind0 : Int) (m_choiceWord : Nat → Int) (m_choiceEnding : Nat → Int) (m_choiceCost : Nat → Int) (m_choices : Int) : Option (Int × Int × (Nat → Int) × (Nat → Int) × (Nat → Int) × (Nat → Int) × (Nat → Int) × Int × (Nat → Int) × (Nat → Int) × (Nat → Int) × (Nat → Int) × (Nat → Int) × (Nat → Int) × (Nat → Int) × (Nat → Int) × Int × Int × (Nat → Int) × (Nat → Int) × (Nat → Int) × (Nat → Int) × (Nat → Int) × Int × Int × (Nat → Int) × (Nat → Int) × (Nat → Int) × (Nat → Int) × Int × Int × Int × (Nat → Int) × (Nat → Int) × (Nat → Int) × Int) :=
  vl (x3 + 1) fun x5_168 =>
  (zloop (fun a => m_X9_choose_170 x4 a.1 m_code m_spellMany m_spellPrice m_spell m_sounds m_endSounds m_kind m_itsClass m_count m_endClass m_endPrice m_words m_endings m_slip m_guess m_base m_steps m_pairs m_n m_fixedMany m_line a.2 m_fixedFrom m_fixedTo m_fixedWord m_fixedEnding m_acts m_oldN m_oldFixed m_oldLine m_oldBreaks m_oldFrom m_oldTo m_oldWord m_oldEnding m_isRead m_isMade m_table m_reach m_next m_rest m_ahead m_parts m_total m_partFrom m_partTo m_partWord m_partEnding m_found m_from0 m_kind0 m_choiceWord m_choiceEnding m_choiceCost m_choices) FU (x5_168, m_breaks)).bind fun (t_170, x5_170, m_breaks_170) =>
  some (m_code, m_fixedMany, m_breaks_170, m_fixedFrom, m_fixedTo, m_fixedWord, m_fixedEnding, m_acts, m_oldN, m_oldFixed, m_oldLine, m_oldBreaks, m_oldFrom, m_oldTo, m_oldWord, m_oldEnding, m_isRead, m_isMade, m_table, m_reach, m_next, m_rest, m_ahead, m_parts, m_total, m_partFrom, m_partTo, m_partWord, m_partEnding, m_found, m_from0, m_kind0, m_choiceWord, m_choiceEnding, m_choiceCost, m_choices)
def m_X9_choose_148 (x3 : Int) (x4 : Int) (m_code : Int) (m_spellMany : Nat → Int) (m_spellPrice : Nat → Int) (m_spell : Nat → Int) (m_sounds : Nat → Int) (m_endSounds : Nat → Int) (m_kind : Nat → Int) (m_itsClass : Nat → Int) (m_count : Nat → Int) (m_endClass : Nat → Int) (m_endPrice : Nat → Int) (m_words : Int) (m_endings : Int) (m_slip : Int) (m_guess : Int) (m_base : Int) (m_steps : Nat → Int) (m_pairs : Nat → Int) (m_n : Int) (m_fixedMany : Int) (m_line : Nat → Int) (m_breaks : Nat → Int) (m_fixedFrom : Nat → Int) (m_fixedTo : Nat → Int) (m_fixedWord : Nat → Int) (m_fixedEnding : Nat → Int) (m_acts : Int) (m_oldN : Nat → Int) (m_oldFixed : Nat → Int) (m_oldLine : Nat → Int) (m_oldBreaks : Nat → Int) (m_oldFrom : Nat → Int) (m_oldTo : Nat → Int) (m_oldWord : Nat → Int) (m_oldEnding : Nat → Int) (m_isRead : Int) (m_isMade : Int) (m_table : Nat → Int) (m_reach : Nat → Int) (m_next : Nat → Int) (m_rest : Nat → Int) (m_ahead : Nat → Int) (m_parts : Int) (m_total : Int) (m_partFrom : Nat → Int) (m_partTo : Nat → Int) (m_partWord : Nat → Int) (m_partEnding : Nat → Int) (m_found : Int) (m_from0 : Int) (m_kind0 : Int) (m_choiceWord : Nat → Int) (m_choiceEnding : Nat → Int) (m_choiceCost : Nat → Int) (m_choices : Int) : Option (Int × Int × (Nat → Int) × (Nat → Int) × (Nat → Int) × (Nat → Int) × (Nat → Int) × Int × (Nat → Int) × (Nat → Int) × (Nat → Int) × (Nat → Int) × (Nat → Int) × (Nat → Int) × (Nat → Int) × (Nat → Int) × Int × Int × (Nat → Int) × (Nat → Int) × (Nat → Int) × (Nat → Int) × (Nat → Int) × Int × Int × (Nat → Int) × (Nat → Int) × (Nat → Int) × (Nat → Int) × Int × Int × Int × (Nat → Int) × (Nat → Int) × (Nat → Int) × Int) :=
  gd (inI x4) <|
  gd (inI m_n) <|
  if m_n ≤ x4 then
    m_X9_choose_165 x3 x4 m_code m_spellMany m_spellPrice m_spell m_sounds m_endSounds m_kind m_itsClass m_count m_endClass m_endPrice m_words m_endings m_slip m_guess m_base m_steps m_pairs m_n m_fixedMany m_line m_breaks m_fixedFrom m_fixedTo m_fixedWord m_fixedEnding m_acts m_oldN m_oldFixed m_oldLine m_oldBreaks m_oldFrom m_oldTo m_oldWord m_oldEnding m_isRead m_isMade m_table m_reach m_next m_rest m_ahead m_parts m_total m_partFrom m_partTo m_partWord m_partEnding m_found m_from0 m_kind0 m_choiceWord m_choiceEnding m_choiceCost m_choices
  else
    gd (0 ≤ x4 ∧ x4 < 37) <|
    vl (uz m_breaks (Int.toNat x4) 1) fun m_breaks_164 =>
    m_X9_choose_165 x3 x4 m_code m_spellMany m_spellPrice m_spell m_sounds m_endSounds m_kind m_itsClass m_count m_endClass m_endPrice m_words m_endings m_slip m_guess m_base m_steps m_pairs m_n m_fixedMany m_line m_breaks_164 m_fixedFrom m_fixedTo m_fixedWord m_fixedEnding m_acts m_oldN m_oldFixed m_oldLine m_oldBreaks m_oldFrom m_oldTo m_oldWord m_oldEnding m_isRead m_isMade m_table m_reach m_next m_rest m_ahead m_parts m_total m_partFrom m_partTo m_partWord m_partEnding m_found m_from0 m_kind0 m_choiceWord m_choiceEnding m_choiceCost m_choices
def m_X9_choose (x1 : Int) (x2 : Int) (m_code : Int) (m_spellMany : Nat → Int) (m_spellPrice : Nat → Int) (m_spell : Nat → Int) (m_sounds : Nat → Int) (m_endSounds : Nat → Int) (m_kind : Nat → Int) (m_itsClass : Nat → Int) (m_count : Nat → Int) (m_endClass : Nat → Int) (m_endPrice : Nat → Int) (m_words : Int) (m_endings : Int) (m_slip : Int) (m_guess : Int) (m_base : Int) (m_steps : Nat → Int) (m_pairs : Nat → Int) (m_n : Int) (m_fixedMany : Int) (m_line : Nat → Int) (m_breaks : Nat → Int) (m_fixedFrom : Nat → Int) (m_fixedTo : Nat → Int) (m_fixedWord : Nat → Int) (m_fixedEnding : Nat → Int) (m_acts : Int) (m_oldN : Nat → Int) (m_oldFixed : Nat → Int) (m_oldLine : Nat → Int) (m_oldBreaks : Nat → Int) (m_oldFrom : Nat → Int) (m_oldTo : Nat → Int) (m_oldWord : Nat → Int) (m_oldEnding : Nat → Int) (m_isRead : Int) (m_isMade : Int) (m_table : Nat → Int) (m_reach : Nat → Int) (m_next : Nat → Int) (m_rest : Nat → Int) (m_ahead : Nat → Int) (m_parts : Int) (m_total : Int) (m_partFrom : Nat → Int) (m_partTo : Nat → Int) (m_partWord : Nat → Int) (m_partEnding : Nat → Int) (m_found : Int) (m_from0 : Int) (m_kind0 : Int) (m_choiceWord : Nat → Int) (m_choiceEnding : Nat → Int) (m_choiceCost : Nat → Int) (m_choices : Int) : Option (Int × Int × (Nat → Int) × (Nat → Int) × (Nat → Int) × (Nat → Int) × (Nat → Int) × Int × (Nat → Int) × (Nat → Int) × (Nat → Int) × (Nat → Int) × (Nat → Int) × (Nat → Int) × (Nat → Int) × (Nat → Int) × Int × Int × (Nat → Int) × (Nat → Int) × (Nat → Int) × (Nat → Int) × (Nat → Int) × Int × Int × (Nat → Int) × (Nat → Int) × (Nat → Int) × (Nat → Int) × Int × Int × Int × (Nat → Int) × (Nat → Int) × (Nat → Int) × Int) :=
  (m_X9_read m_spellMany m_spellPrice m_spell m_sounds m_endSounds m_kind m_itsClass m_count m_endClass m_endPrice m_words m_endings m_slip m_guess m_base m_steps m_pairs m_n m_fixedMany m_line m_breaks m_fixedFrom m_fixedTo m_fixedWord m_fixedEnding m_isRead m_isMade m_table m_reach m_next m_rest m_ahead m_parts m_total m_partFrom m_partTo m_partWord m_partEnding m_found m_from0 m_kind0).bind fun (m_isRead_6, m_isMade_6, m_table_6, m_reach_6, m_next_6, m_rest_6, m_ahead_6, m_parts_6, m_total_6, m_partFrom_6, m_partTo_6, m_partWord_6, m_partEnding_6, m_found_6, m_from0_6, m_kind0_6) =>
  gd (inI x1) <|
  if x1 < 0 then
    some (1, m_fixedMany, m_breaks, m_fixedFrom, m_fixedTo, m_fixedWord, m_fixedEnding, m_acts, m_oldN, m_oldFixed, m_oldLine, m_oldBreaks, m_oldFrom, m_oldTo, m_oldWord, m_oldEnding, m_isRead_6, m_isMade_6, m_table_6, m_reach_6, m_next_6, m_rest_6, m_ahead_6, m_parts_6, m_total_6, m_partFrom_6, m_partTo_6, m_partWord_6, m_partEnding_6, m_found_6, m_from0_6, m_kind0_6, m_choiceWord, m_choiceEnding, m_choiceCost, m_choices)
  else
    gd (inI m_parts_6) <|
    if x1 < m_parts_6 then
      (m_X9_choose0 x1 m_kind m_itsClass m_count m_endClass m_endPrice m_words m_endings m_guess m_base m_steps m_pairs m_n m_breaks m_table_6 m_rest_6 m_ahead_6 m_partFrom_6 m_partTo_6 m_choiceWord m_choiceEnding m_choiceCost m_choices).bind fun (m_choiceWord_29, m_choiceEnding_29, m_choiceCost_29, m_choices_29) =>
      gd (inI x2) <|
      if x2 < 0 then
        some (1, m_fixedMany, m_breaks, m_fixedFrom, m_fixedTo, m_fixedWord, m_fixedEnding, m_acts, m_oldN, m_oldFixed, m_oldLine, m_oldBreaks, m_oldFrom, m_oldTo, m_oldWord, m_oldEnding, m_isRead_6, m_isMade_6, m_table_6, m_reach_6, m_next_6, m_rest_6, m_ahead_6, m_parts_6, m_total_6, m_partFrom_6, m_partTo_6, m_partWord_6, m_partEnding_6, m_found_6, m_from0_6, m_kind0_6, m_choiceWord_29, m_choiceEnding_29, m_choiceCost_29, m_choices_29)
      else
        gd (inI m_choices_29) <|
        if x2 < m_choices_29 then
          (m_X9_act m_n m_fixedMany m_line m_breaks m_fixedFrom m_fixedTo m_fixedWord m_fixedEnding m_acts m_oldN m_oldFixed m_oldLine m_oldBreaks m_oldFrom m_oldTo m_oldWord m_oldEnding m_isRead_6).bind fun (m_acts_51, m_oldN_51, m_oldFixed_51, m_oldLine_51, m_oldBreaks_51, m_oldFrom_51, m_oldTo_51, m_oldWord_51, m_oldEnding_51, m_isRead_51) =>
          gd (0 ≤ x1 ∧ x1 < 36) <|
          vl (m_partFrom_6 (Int.toNat x1)) fun x3_60 =>
          gd (0 ≤ x1 ∧ x1 < 36) <|
          vl (m_partTo_6 (Int.toNat x1)) fun x4_67 =>
          (m_X9_unfix x3_60 x4_67 m_fixedMany m_fixedFrom m_fixedTo m_fixedWord m_fixedEnding).bind fun (m_fixedMany_73, m_fixedFrom_73, m_fixedTo_73, m_fixedWord_73, m_fixedEnding_73) =>
          gd (0 ≤ m_fixedMany_73 ∧ m_fixedMany_73 < 36) <|
          vl (uz m_fixedFrom_73 (Int.toNat m_fixedMany_73) x3_60) fun m_fixedFrom_85 =>
          gd (0 ≤ m_fixedMany_73 ∧ m_fixedMany_73 < 36) <|
          vl (uz m_fixedTo_73 (Int.toNat m_fixedMany_73) x4_67) fun m_fixedTo_96 =>
          gd (0 ≤ x2 ∧ x2 < 12) <|
          gd (0 ≤ m_fixedMany_73 ∧ m_fixedMany_73 < 36) <|
          vl (uz m_fixedWord_73 (Int.toNat m_fixedMany_73) (m_choiceWord_29 (Int.toNat x2))) fun m_fixedWord_111 =>
          gd (0 ≤ x2 ∧ x2 < 12) <|
          gd (0 ≤ m_fixedMany_73 ∧ m_fixedMany_73 < 36) <|
          vl (uz m_fixedEnding_73 (Int.toNat m_fixedMany_73) (m_choiceEnding_29 (Int.toNat x2))) fun m_fixedEnding_126 =>
          vl (m_fixedMany_73 + 1) fun m_fixedMany_134 =>
          gd (inI x3_60) <|
          if x3_60 ≤ 0 then
            m_X9_choose_148 x3_60 x4_67 0 m_spellMany m_spellPrice m_spell m_sounds m_endSounds m_kind m_itsClass m_count m_endClass m_endPrice m_words m_endings m_slip m_guess m_base m_steps m_pairs m_n m_fixedMany_134 m_line m_breaks m_fixedFrom_85 m_fixedTo_96 m_fixedWord_111 m_fixedEnding_126 m_acts_51 m_oldN_51 m_oldFixed_51 m_oldLine_51 m_oldBreaks_51 m_oldFrom_51 m_oldTo_51 m_oldWord_51 m_oldEnding_51 m_isRead_51 m_isMade_6 m_table_6 m_reach_6 m_next_6 m_rest_6 m_ahead_6 m_parts_6 m_total_6 m_partFrom_6 m_partTo_6 m_partWord_6 m_partEnding_6 m_found_6 m_from0_6 m_kind0_6 m_choiceWord_29 m_choiceEnding_29 m_choiceCost_29 m_choices_29
          else
            gd (0 ≤ x3_60 ∧ x3_60 < 37) <|
            vl (uz m_breaks (Int.toNat x3_60) 1) fun m_breaks_147 =>
            m_X9_choose_148 x3_60 x4_67 0 m_spellMany m_spellPrice m_spell m_sounds m_endSounds m_kind m_itsClass m_count m_endClass m_endPrice m_words m_endings m_slip m_guess m_base m_steps m_pairs m_n m_fixedMany_134 m_line m_breaks_147 m_fixedFrom_85 m_fixedTo_96 m_fixedWord_111 m_fixedEnding_126 m_acts_51 m_oldN_51 m_oldFixed_51 m_oldLine_51 m_oldBreaks_51 m_oldFrom_51 m_oldTo_51 m_oldWord_51 m_oldEnding_51 m_isRead_51 m_isMade_6 m_table_6 m_reach_6 m_next_6 m_rest_6 m_ahead_6 m_parts_6 m_total_6 m_partFrom_6 m_partTo_6 m_partWord_6 m_partEnding_6 m_found_6 m_from0_6 m_kind0_6 m_choiceWord_29 m_choiceEnding_29 m_choiceCost_29 m_choices_29
        else
          some (1, m_fixedMany, m_breaks, m_fixedFrom, m_fixedTo, m_fixedWord, m_fixedEnding, m_acts, m_oldN, m_oldFixed, m_oldLine, m_oldBreaks, m_oldFrom, m_oldTo, m_oldWord, m_oldEnding, m_isRead_6, m_isMade_6, m_table_6, m_reach_6, m_next_6, m_rest_6, m_ahead_6, m_parts_6, m_total_6, m_partFrom_6, m_partTo_6, m_partWord_6, m_partEnding_6, m_found_6, m_from0_6, m_kind0_6, m_choiceWord_29, m_choiceEnding_29, m_choiceCost_29, m_choices_29)
    else
      some (1, m_fixedMany, m_breaks, m_fixedFrom, m_fixedTo, m_fixedWord, m_fixedEnding, m_acts, m_oldN, m_oldFixed, m_oldLine, m_oldBreaks, m_oldFrom, m_oldTo, m_oldWord, m_oldEnding, m_isRead_6, m_isMade_6, m_table_6, m_reach_6, m_next_6, m_rest_6, m_ahead_6, m_parts_6, m_total_6, m_partFrom_6, m_partTo_6, m_partWord_6, m_partEnding_6, m_found_6, m_from0_6, m_kind0_6, m_choiceWord, m_choiceEnding, m_choiceCost, m_choices)
def m_X9_setBreak_27 (m_code : Int) (m_n : Int) (m_fixedMany : Int) (m_line : Nat → Int) (m_breaks : Nat → Int) (m_fixedFrom : Nat → Int) (m_fixedTo : Nat → Int) (m_fixedWord : Nat → Int) (m_fixedEnding : Nat → Int) (m_acts : Int) (m_oldN : Nat → Int) (m_oldFixed : Nat → Int) (m_oldLine : Nat → Int) (m_oldBreaks : Nat → Int) (m_oldFrom : Nat → Int) (m_oldTo : Nat → Int) (m_oldWord : Nat → Int) (m_oldEnding : Nat → Int) (m_isRead : Int) : Option (Int × Int × Int × (Nat → Int) × (Nat → Int) × (Nat → Int) × (Nat → Int) × (Nat → Int) × Int × (Nat → Int) × (Nat → Int) × (Nat → Int) × (Nat → Int) × (Nat → Int) × (Nat → Int) × (Nat → Int) × (Nat → Int) × Int) :=
  (m_X9_fail m_code).bind fun (r_28, m_code_28) =>
  some (r_28, m_code_28, m_fixedMany, m_breaks, m_fixedFrom, m_fixedTo, m_fixedWord, m_fixedEnding, m_acts, m_oldN, m_oldFixed, m_oldLine, m_oldBreaks, m_oldFrom, m_oldTo, m_oldWord, m_oldEnding, m_isRead)
def m_X9_setBreak_60 (x1 : Int) (x2 : Int) (x3 : Int) (m_code : Int) (m_n : Int) (m_fixedMany : Int) (m_line : Nat → Int) (m_breaks : Nat → Int) (m_fixedFrom : Nat → Int) (m_fixedTo : Nat → Int) (m_fixedWord : Nat → Int) (m_fixedEnding : Nat → Int) (m_acts : Int) (m_oldN : Nat → Int) (m_oldFixed : Nat → Int) (m_oldLine : Nat → Int) (m_oldBreaks : Nat → Int) (m_oldFrom : Nat → Int) (m_oldTo : Nat → Int) (m_oldWord : Nat → Int) (m_oldEnding : Nat → Int) (m_isRead : Int) : Option (Int × Int × Int × (Nat → Int) × (Nat → Int) × (Nat → Int) × (Nat → Int) × (Nat → Int) × Int × (Nat → Int) × (Nat → Int) × (Nat → Int) × (Nat → Int) × (Nat → Int) × (Nat → Int) × (Nat → Int) × (Nat → Int) × Int) :=
  gd (inI x2) <|
  if x2 = 1 then
    some (x3, m_code, m_fixedMany, m_breaks, m_fixedFrom, m_fixedTo, m_fixedWord, m_fixedEnding, m_acts, m_oldN, m_oldFixed, m_oldLine, m_oldBreaks, m_oldFrom, m_oldTo, m_oldWord, m_oldEnding, m_isRead)
  else
    (m_X9_unfixEnds x1 m_fixedMany m_fixedFrom m_fixedTo m_fixedWord m_fixedEnding).bind fun (m_fixedMany_67, m_fixedFrom_67, m_fixedTo_67, m_fixedWord_67, m_fixedEnding_67) =>
    some (x3, m_code, m_fixedMany_67, m_breaks, m_fixedFrom_67, m_fixedTo_67, m_fixedWord_67, m_fixedEnding_67, m_acts, m_oldN, m_oldFixed, m_oldLine, m_oldBreaks, m_oldFrom, m_oldTo, m_oldWord, m_oldEnding, m_isRead)
def m_X9_setBreak (x1 : Int) (x2 : Int) (m_code : Int) (m_n : Int) (m_fixedMany : Int) (m_line : Nat → Int) (m_breaks : Nat → Int) (m_fixedFrom : Nat → Int) (m_fixedTo : Nat → Int) (m_fixedWord : Nat → Int) (m_fixedEnding : Nat → Int) (m_acts : Int) (m_oldN : Nat → Int) (m_oldFixed : Nat → Int) (m_oldLine : Nat → Int) (m_oldBreaks : Nat → Int) (m_oldFrom : Nat → Int) (m_oldTo : Nat → Int) (m_oldWord : Nat → Int) (m_oldEnding : Nat → Int) (m_isRead : Int) : Option (Int × Int × Int × (Nat → Int) × (Nat → Int) × (Nat → Int) × (Nat → Int) × (Nat → Int) × Int × (Nat → Int) × (Nat → Int) × (Nat → Int) × (Nat → Int) × (Nat → Int) × (Nat → Int) × (Nat → Int) × (Nat → Int) × Int) :=
  gd (inI x1) <|
  if x1 < 1 then
    m_X9_setBreak_27 0 m_n m_fixedMany m_line m_breaks m_fixedFrom m_fixedTo m_fixedWord m_fixedEnding m_acts m_oldN m_oldFixed m_oldLine m_oldBreaks m_oldFrom m_oldTo m_oldWord m_oldEnding m_isRead
  else
    gd (inI m_n) <|
    if m_n ≤ x1 then
      m_X9_setBreak_27 0 m_n m_fixedMany m_line m_breaks m_fixedFrom m_fixedTo m_fixedWord m_fixedEnding m_acts m_oldN m_oldFixed m_oldLine m_oldBreaks m_oldFrom m_oldTo m_oldWord m_oldEnding m_isRead
    else
      gd (inI x2) <|
      if x2 < 0 then
        m_X9_setBreak_27 0 m_n m_fixedMany m_line m_breaks m_fixedFrom m_fixedTo m_fixedWord m_fixedEnding m_acts m_oldN m_oldFixed m_oldLine m_oldBreaks m_oldFrom m_oldTo m_oldWord m_oldEnding m_isRead
      else
        if x2 ≤ 2 then
          (m_X9_act m_n m_fixedMany m_line m_breaks m_fixedFrom m_fixedTo m_fixedWord m_fixedEnding m_acts m_oldN m_oldFixed m_oldLine m_oldBreaks m_oldFrom m_oldTo m_oldWord m_oldEnding m_isRead).bind fun (m_acts_33, m_oldN_33, m_oldFixed_33, m_oldLine_33, m_oldBreaks_33, m_oldFrom_33, m_oldTo_33, m_oldWord_33, m_oldEnding_33, m_isRead_33) =>
          gd (0 ≤ x1 ∧ x1 < 37) <|
          vl (m_breaks (Int.toNat x1)) fun x3_42 =>
          gd (0 ≤ x1 ∧ x1 < 37) <|
          vl (uz m_breaks (Int.toNat x1) x2) fun m_breaks_49 =>
          if x2 = 2 then
            m_X9_setBreak_60 x1 x2 x3_42 0 m_n m_fixedMany m_line m_breaks_49 m_fixedFrom m_fixedTo m_fixedWord m_fixedEnding m_acts_33 m_oldN_33 m_oldFixed_33 m_oldLine_33 m_oldBreaks_33 m_oldFrom_33 m_oldTo_33 m_oldWord_33 m_oldEnding_33 m_isRead_33
          else
            (m_X9_unfixOver x1 m_fixedMany m_fixedFrom m_fixedTo m_fixedWord m_fixedEnding).bind fun (m_fixedMany_57, m_fixedFrom_57, m_fixedTo_57, m_fixedWord_57, m_fixedEnding_57) =>
            m_X9_setBreak_60 x1 x2 x3_42 0 m_n m_fixedMany_57 m_line m_breaks_49 m_fixedFrom_57 m_fixedTo_57 m_fixedWord_57 m_fixedEnding_57 m_acts_33 m_oldN_33 m_oldFixed_33 m_oldLine_33 m_oldBreaks_33 m_oldFrom_33 m_oldTo_33 m_oldWord_33 m_oldEnding_33 m_isRead_33
        else
          m_X9_setBreak_27 0 m_n m_fixedMany m_line m_breaks m_fixedFrom m_fixedTo m_fixedWord m_fixedEnding m_acts m_oldN m_oldFixed m_oldLine m_oldBreaks m_oldFrom m_oldTo m_oldWord m_oldEnding m_isRead
def m_X9_freeHand_7 (x1 : Int) (m_fixedMany : Int) (m_breaks : Nat → Int) : Option (Nat × (Int × (Nat → Int))) :=
  gd (inI x1) <|
  if 36 < x1 then
    some (1, (x1, m_breaks))
  else
    gd (0 ≤ x1 ∧ x1 < 37) <|
    vl (uz m_breaks (Int.toNat x1) 0) fun m_breaks_19 =>
    vl (x1 + 1) fun x1_20 =>
    some (0, (x1_20, m_breaks_19))
def m_X9_freeHand (m_fixedMany : Int) (m_breaks : Nat → Int) : Option (Int × (Nat → Int)) :=
  (zloop (fun a => m_X9_freeHand_7 a.1 0 a.2) FU (0, m_breaks)).bind fun (t_7, x1_7, m_breaks_7) =>
  some (0, m_breaks_7)
def m_X9_free (m_code : Int) (m_n : Int) (m_fixedMany : Int) (m_line : Nat → Int) (m_breaks : Nat → Int) (m_fixedFrom : Nat → Int) (m_fixedTo : Nat → Int) (m_fixedWord : Nat → Int) (m_fixedEnding : Nat → Int) (m_acts : Int) (m_oldN : Nat → Int) (m_oldFixed : Nat → Int) (m_oldLine : Nat → Int) (m_oldBreaks : Nat → Int) (m_oldFrom : Nat → Int) (m_oldTo : Nat → Int) (m_oldWord : Nat → Int) (m_oldEnding : Nat → Int) (m_isRead : Int) : Option (Int × Int × Int × (Nat → Int) × Int × (Nat → Int) × (Nat → Int) × (Nat → Int) × (Nat → Int) × (Nat → Int) × (Nat → Int) × (Nat → Int) × (Nat → Int) × Int) :=
  (m_X9_act m_n m_fixedMany m_line m_breaks m_fixedFrom m_fixedTo m_fixedWord m_fixedEnding m_acts m_oldN m_oldFixed m_oldLine m_oldBreaks m_oldFrom m_oldTo m_oldWord m_oldEnding m_isRead).bind fun (m_acts_6, m_oldN_6, m_oldFixed_6, m_oldLine_6, m_oldBreaks_6, m_oldFrom_6, m_oldTo_6, m_oldWord_6, m_oldEnding_6, m_isRead_6) =>
  (m_X9_freeHand m_fixedMany m_breaks).bind fun (m_fixedMany_15, m_breaks_15) =>
  some (m_fixedMany, 0, m_fixedMany_15, m_breaks_15, m_acts_6, m_oldN_6, m_oldFixed_6, m_oldLine_6, m_oldBreaks_6, m_oldFrom_6, m_oldTo_6, m_oldWord_6, m_oldEnding_6, m_isRead_6)
def m_X9_empty (m_code : Int) (m_n : Int) (m_fixedMany : Int) (m_line : Nat → Int) (m_breaks : Nat → Int) (m_fixedFrom : Nat → Int) (m_fixedTo : Nat → Int) (m_fixedWord : Nat → Int) (m_fixedEnding : Nat → Int) (m_acts : Int) (m_oldN : Nat → Int) (m_oldFixed : Nat → Int) (m_oldLine : Nat → Int) (m_oldBreaks : Nat → Int) (m_oldFrom : Nat → Int) (m_oldTo : Nat → Int) (m_oldWord : Nat → Int) (m_oldEnding : Nat → Int) (m_isRead : Int) (m_isMade : Int) : Option (Int × Int × Int × Int × (Nat → Int) × Int × (Nat → Int) × (Nat → Int) × (Nat → Int) × (Nat → Int) × (Nat → Int) × (Nat → Int) × (Nat → Int) × (Nat → Int) × Int × Int) :=
  (m_X9_act m_n m_fixedMany m_line m_breaks m_fixedFrom m_fixedTo m_fixedWord m_fixedEnding m_acts m_oldN m_oldFixed m_oldLine m_oldBreaks m_oldFrom m_oldTo m_oldWord m_oldEnding m_isRead).bind fun (m_acts_6, m_oldN_6, m_oldFixed_6, m_oldLine_6, m_oldBreaks_6, m_oldFrom_6, m_oldTo_6, m_oldWord_6, m_oldEnding_6, m_isRead_6) =>
  (m_X9_freeHand m_fixedMany m_breaks).bind fun (m_fixedMany_20, m_breaks_20) =>
  (m_X9_changed m_isRead_6 m_isMade).bind fun (m_isRead_24, m_isMade_24) =>
  some (m_n, 0, 0, m_fixedMany_20, m_breaks_20, m_acts_6, m_oldN_6, m_oldFixed_6, m_oldLine_6, m_oldBreaks_6, m_oldFrom_6, m_oldTo_6, m_oldWord_6, m_oldEnding_6, m_isRead_24, m_isMade_24)
def m_X9_back_56 (x1 : Int) (m_code : Int) (m_n : Int) (m_fixedMany : Int) (m_line : Nat → Int) (m_breaks : Nat → Int) (m_fixedFrom : Nat → Int) (m_fixedTo : Nat → Int) (m_fixedWord : Nat → Int) (m_fixedEnding : Nat → Int) (m_acts : Int) (m_oldN : Nat → Int) (m_oldFixed : Nat → Int) (m_oldLine : Nat → Int) (m_oldBreaks : Nat → Int) (m_oldFrom : Nat → Int) (m_oldTo : Nat → Int) (m_oldWord : Nat → Int) (m_oldEnding : Nat → Int) (m_isRead : Int) (m_isMade : Int) : Option (Nat × (Int × (Nat → Int) × (Nat → Int) × (Nat → Int) × (Nat → Int) × (Nat → Int))) :=
  gd (inI x1) <|
  if 36 ≤ x1 then
    some (1, (x1, m_line, m_fixedFrom, m_fixedTo, m_fixedWord, m_fixedEnding))
  else
    gd (0 ≤ ((36 * m_acts) + x1) ∧ ((36 * m_acts) + x1) < 2880) <|
    gd (0 ≤ x1 ∧ x1 < 36) <|
    vl (uz m_line (Int.toNat x1) (m_oldLine (Int.toNat ((36 * m_acts) + x1)))) fun m_line_81 =>
    gd (0 ≤ ((36 * m_acts) + x1) ∧ ((36 * m_acts) + x1) < 2880) <|
    gd (0 ≤ x1 ∧ x1 < 36) <|
    vl (uz m_fixedFrom (Int.toNat x1) (m_oldFrom (Int.toNat ((36 * m_acts) + x1)))) fun m_fixedFrom_101 =>
    gd (0 ≤ ((36 * m_acts) + x1) ∧ ((36 * m_acts) + x1) < 2880) <|
    gd (0 ≤ x1 ∧ x1 < 36) <|
    vl (uz m_fixedTo (Int.toNat x1) (m_oldTo (Int.toNat ((36 * m_acts) + x1)))) fun m_fixedTo_121 =>
    gd (0 ≤ ((36 * m_acts) + x1) ∧ ((36 * m_acts) + x1) < 2880) <|
    gd (0 ≤ x1 ∧ x1 < 36) <|
    vl (uz m_fixedWord (Int.toNat x1) (m_oldWord (Int.toNat ((36 * m_acts) + x1)))) fun m_fixedWord_141 =>
    gd (0 ≤ ((36 * m_acts) + x1) ∧ ((36 * m_acts) + x1) < 2880) <|
    gd (0 ≤ x1 ∧ x1 < 36) <|
    vl (uz m_fixedEnding (Int.toNat x1) (m_oldEnding (Int.toNat ((36 * m_acts) + x1)))) fun m_fixedEnding_161 =>
    vl (x1 + 1) fun x1_162 =>
    some (0, (x1_162, m_line_81, m_fixedFrom_101, m_fixedTo_121, m_fixedWord_141, m_fixedEnding_161))
def m_X9_back_170 (x1 : Int) (m_code : Int) (m_n : Int) (m_fixedMany : Int) (m_line : Nat → Int) (m_breaks : Nat → Int) (m_fixedFrom : Nat → Int) (m_fixedTo : Nat → Int) (m_fixedWord : Nat → Int) (m_fixedEnding : Nat → Int) (m_acts : Int) (m_oldN : Nat → Int) (m_oldFixed : Nat → Int) (m_oldLine : Nat → Int) (m_oldBreaks : Nat → Int) (m_oldFrom : Nat → Int) (m_oldTo : Nat → Int) (m_oldWord : Nat → Int) (m_oldEnding : Nat → Int) (m_isRead : Int) (m_isMade : Int) : Option (Nat × (Int × (Nat → Int))) :=
  gd (inI x1) <|
  if 36 < x1 then
    some (1, (x1, m_breaks))
  else
    gd (0 ≤ ((37 * m_acts) + x1) ∧ ((37 * m_acts) + x1) < 2960) <|
    gd (0 ≤ x1 ∧ x1 < 37) <|
    vl (uz m_breaks (Int.toNat x1) (m_oldBreaks (Int.toNat ((37 * m_acts) + x1)))) fun m_breaks_195 =>
    vl (x1 + 1) fun x1_196 =>
    some (0, (x1_196, m_breaks_195))
def m_X9_back (m_code : Int) (m_n : Int) (m_fixedMany : Int) (m_line : Nat → Int) (m_breaks : Nat → Int) (m_fixedFrom : Nat → Int) (m_fixedTo : Nat → Int) (m_fixedWord : Nat → Int) (m_fixedEnding : Nat → Int) (m_acts : Int) (m_oldN : Nat → Int) (m_oldFixed : Nat → Int) (m_oldLine : Nat → Int) (m_oldBreaks : Nat → Int) (m_oldFrom : Nat → Int) (m_oldTo : Nat → Int) (m_oldWord : Nat → Int) (m_oldEnding : Nat → Int) (m_isRead : Int) (m_isMade : Int) : Option (Int × Int × Int × Int × (Nat → Int) × (Nat → Int) × (Nat → Int) × (Nat → Int) × (Nat → Int) × (Nat → Int) × Int × Int × Int) :=
  gd (inI m_acts) <|
  if m_acts = 0 then
    some (0, 0, m_n, m_fixedMany, m_line, m_breaks, m_fixedFrom, m_fixedTo, m_fixedWord, m_fixedEnding, m_acts, m_isRead, m_isMade)
  else
    vl (m_acts - 1) fun m_acts_21 =>
    (m_X9_changed m_isRead m_isMade).bind fun (m_isRead_25, m_isMade_25) =>
    gd (0 ≤ m_acts_21 ∧ m_acts_21 < 80) <|
    vl (m_oldN (Int.toNat m_acts_21)) fun m_n_38 =>
    gd (0 ≤ m_acts_21 ∧ m_acts_21 < 80) <|
    vl (m_oldFixed (Int.toNat m_acts_21)) fun m_fixedMany_51 =>
    (zloop (fun a => m_X9_back_56 a.1 0 m_n_38 m_fixedMany_51 a.2.1 m_breaks a.2.2.1 a.2.2.2.1 a.2.2.2.2.1 a.2.2.2.2.2 m_acts_21 m_oldN m_oldFixed m_oldLine m_oldBreaks m_oldFrom m_oldTo m_oldWord m_oldEnding m_isRead_25 m_isMade_25) FU (0, m_line, m_fixedFrom, m_fixedTo, m_fixedWord, m_fixedEnding)).bind fun (t_56, x1_56, m_line_56, m_fixedFrom_56, m_fixedTo_56, m_fixedWord_56, m_fixedEnding_56) =>
    (zloop (fun a => m_X9_back_170 a.1 0 m_n_38 m_fixedMany_51 m_line_56 a.2 m_fixedFrom_56 m_fixedTo_56 m_fixedWord_56 m_fixedEnding_56 m_acts_21 m_oldN m_oldFixed m_oldLine m_oldBreaks m_oldFrom m_oldTo m_oldWord m_oldEnding m_isRead_25 m_isMade_25) FU (0, m_breaks)).bind fun (t_170, x1_170, m_breaks_170) =>
    some (1, 0, m_n_38, m_fixedMany_51, m_line_56, m_breaks_170, m_fixedFrom_56, m_fixedTo_56, m_fixedWord_56, m_fixedEnding_56, m_acts_21, m_isRead_25, m_isMade_25)
def m_X9_learn_48 (x1 : Int) (x2 : Int) (x3 : Int) (m_count : Nat → Int) (m_pairs : Nat → Int) (m_keptMany : Nat → Int) (m_keptWord : Nat → Int) (m_keptKind : Nat → Int) : Option (Nat × (Int × (Nat → Int) × (Nat → Int))) :=
  gd (inI x3) <|
  if x3 ≤ 0 then
    vl (x3 + 1) fun x3_89 =>
    some (0, (x3_89, m_count, m_pairs))
  else
    gd (0 ≤ (((36 * x1) + x3) - 1) ∧ (((36 * x1) + x3) - 1) < 1440) <|
    gd (0 ≤ ((36 * x1) + x3) ∧ ((36 * x1) + x3) < 1440) <|
    gd (0 ≤ ((9 * (m_keptKind (Int.toNat (((36 * x1) + x3) - 1)))) + (m_keptKind (Int.toNat ((36 * x1) + x3)))) ∧ ((9 * (m_keptKind (Int.toNat (((36 * x1) + x3) - 1)))) + (m_keptKind (Int.toNat ((36 * x1) + x3)))) < 81) <|
    gd (0 ≤ ((9 * (m_keptKind (Int.toNat (((36 * x1) + x3) - 1)))) + (m_keptKind (Int.toNat ((36 * x1) + x3)))) ∧ ((9 * (m_keptKind (Int.toNat (((36 * x1) + x3) - 1)))) + (m_keptKind (Int.toNat ((36 * x1) + x3)))) < 81) <|
    vl (uz m_pairs (Int.toNat ((9 * (m_keptKind (Int.toNat (((36 * x1) + x3) - 1)))) + (m_keptKind (Int.toNat ((36 * x1) + x3))))) ((m_pairs (Int.toNat ((9 * (m_keptKind (Int.toNat (((36 * x1) + x3) - 1)))) + (m_keptKind (Int.toNat ((36 * x1) + x3)))))) + x2)) fun m_pairs_88 =>
    vl (x3 + 1) fun x3_89_v2 =>
    some (0, (x3_89_v2, m_count, m_pairs_88))
def m_X9_learn_2 (x1 : Int) (x2 : Int) (x3 : Int) (m_count : Nat → Int) (m_pairs : Nat → Int) (m_keptMany : Nat → Int) (m_keptWord : Nat → Int) (m_keptKind : Nat → Int) : Option (Nat × (Int × (Nat → Int) × (Nat → Int))) :=
  gd (0 ≤ x1 ∧ x1 < 40) <|
  gd (inI x3) <|
  gd (inI (m_keptMany (Int.toNat x1))) <|
  if (m_keptMany (Int.toNat x1)) ≤ x3 then
    some (1, (x3, m_count, m_pairs))
  else
    gd (0 ≤ ((36 * x1) + x3) ∧ ((36 * x1) + x3) < 1440) <|
    gd (inI (m_keptWord (Int.toNat ((36 * x1) + x3)))) <|
    if (m_keptWord (Int.toNat ((36 * x1) + x3))) = 60 then
      m_X9_learn_48 x1 x2 x3 m_count m_pairs m_keptMany m_keptWord m_keptKind
    else
      gd (0 ≤ ((36 * x1) + x3) ∧ ((36 * x1) + x3) < 1440) <|
      gd (0 ≤ (m_keptWord (Int.toNat ((36 * x1) + x3))) ∧ (m_keptWord (Int.toNat ((36 * x1) + x3))) < 60) <|
      gd (0 ≤ (m_keptWord (Int.toNat ((36 * x1) + x3))) ∧ (m_keptWord (Int.toNat ((36 * x1) + x3))) < 60) <|
      vl (uz m_count (Int.toNat (m_keptWord (Int.toNat ((36 * x1) + x3)))) ((m_count (Int.toNat (m_keptWord (Int.toNat ((36 * x1) + x3))))) + x2)) fun m_count_47 =>
      m_X9_learn_48 x1 x2 x3 m_count_47 m_pairs m_keptMany m_keptWord m_keptKind
def m_X9_learn (x1 : Int) (x2 : Int) (m_count : Nat → Int) (m_pairs : Nat → Int) (m_keptMany : Nat → Int) (m_keptWord : Nat → Int) (m_keptKind : Nat → Int) : Option ((Nat → Int) × (Nat → Int)) :=
  (zloop (fun a => m_X9_learn_2 x1 x2 a.1 a.2.1 a.2.2 m_keptMany m_keptWord m_keptKind) FU (0, m_count, m_pairs)).bind fun (t_2, x3_2, m_count_2, m_pairs_2) =>
  some (m_count_2, m_pairs_2)
def m_X9_take_51 (x1 : Int) (m_code : Int) (m_spellMany : Nat → Int) (m_spellPrice : Nat → Int) (m_spell : Nat → Int) (m_sounds : Nat → Int) (m_endSounds : Nat → Int) (m_kind : Nat → Int) (m_itsClass : Nat → Int) (m_count : Nat → Int) (m_endClass : Nat → Int) (m_endPrice : Nat → Int) (m_words : Int) (m_endings : Int) (m_slip : Int) (m_guess : Int) (m_base : Int) (m_steps : Nat → Int) (m_pairs : Nat → Int) (m_n : Int) (m_fixedMany : Int) (m_line : Nat → Int) (m_breaks : Nat → Int) (m_fixedFrom : Nat → Int) (m_fixedTo : Nat → Int) (m_fixedWord : Nat → Int) (m_fixedEnding : Nat → Int) (m_acts : Int) (m_kept : Int) (m_keptMany : Nat → Int) (m_keptWord : Nat → Int) (m_keptKind : Nat → Int) (m_isRead : Int) (m_isMade : Int) (m_table : Nat → Int) (m_reach : Nat → Int) (m_next : Nat → Int) (m_rest : Nat → Int) (m_ahead : Nat → Int) (m_parts : Int) (m_total : Int) (m_partFrom : Nat → Int) (m_partTo : Nat → Int) (m_partWord : Nat → Int) (m_partEnding : Nat → Int) (m_found : Int) (m_from0 : Int) (m_kind0 : Int) : Option (Nat × (Int × (Nat → Int) × (Nat → Int))) :=
  gd (inI x1) <|
  gd (inI m_parts) <|
  if m_parts ≤ x1 then
    some (1, (x1, m_keptWord, m_keptKind))
  else
    gd (0 ≤ x1 ∧ x1 < 36) <|
    gd (0 ≤ ((36 * m_kept) + x1) ∧ ((36 * m_kept) + x1) < 1440) <|
    vl (uz m_keptWord (Int.toNat ((36 * m_kept) + x1)) (m_partWord (Int.toNat x1))) fun m_keptWord_78 =>
    gd (0 ≤ x1 ∧ x1 < 36) <|
    (m_X9_kindOf (m_partWord (Int.toNat x1)) m_kind).bind fun r_99 =>
    gd (0 ≤ ((36 * m_kept) + x1) ∧ ((36 * m_kept) + x1) < 1440) <|
    vl (uz m_keptKind (Int.toNat ((36 * m_kept) + x1)) r_99) fun m_keptKind_102 =>
    vl (x1 + 1) fun x1_103 =>
    some (0, (x1_103, m_keptWord_78, m_keptKind_102))
def m_X9_take (m_code : Int) (m_spellMany : Nat → Int) (m_spellPrice : Nat → Int) (m_spell : Nat → Int) (m_sounds : Nat → Int) (m_endSounds : Nat → Int) (m_kind : Nat → Int) (m_itsClass : Nat → Int) (m_count : Nat → Int) (m_endClass : Nat → Int) (m_endPrice : Nat → Int) (m_words : Int) (m_endings : Int) (m_slip : Int) (m_guess : Int) (m_base : Int) (m_steps : Nat → Int) (m_pairs : Nat → Int) (m_n : Int) (m_fixedMany : Int) (m_line : Nat → Int) (m_breaks : Nat → Int) (m_fixedFrom : Nat → Int) (m_fixedTo : Nat → Int) (m_fixedWord : Nat → Int) (m_fixedEnding : Nat → Int) (m_acts : Int) (m_kept : Int) (m_keptMany : Nat → Int) (m_keptWord : Nat → Int) (m_keptKind : Nat → Int) (m_isRead : Int) (m_isMade : Int) (m_table : Nat → Int) (m_reach : Nat → Int) (m_next : Nat → Int) (m_rest : Nat → Int) (m_ahead : Nat → Int) (m_parts : Int) (m_total : Int) (m_partFrom : Nat → Int) (m_partTo : Nat → Int) (m_partWord : Nat → Int) (m_partEnding : Nat → Int) (m_found : Int) (m_from0 : Int) (m_kind0 : Int) : Option (Int × Int × (Nat → Int) × (Nat → Int) × Int × Int × (Nat → Int) × Int × Int × (Nat → Int) × (Nat → Int) × (Nat → Int) × Int × Int × (Nat → Int) × (Nat → Int) × (Nat → Int) × (Nat → Int) × (Nat → Int) × Int × Int × (Nat → Int) × (Nat → Int) × (Nat → Int) × (Nat → Int) × Int × Int × Int) :=
  (m_X9_read m_spellMany m_spellPrice m_spell m_sounds m_endSounds m_kind m_itsClass m_count m_endClass m_endPrice m_words m_endings m_slip m_guess m_base m_steps m_pairs m_n m_fixedMany m_line m_breaks m_fixedFrom m_fixedTo m_fixedWord m_fixedEnding m_isRead m_isMade m_table m_reach m_next m_rest m_ahead m_parts m_total m_partFrom m_partTo m_partWord m_partEnding m_found m_from0 m_kind0).bind fun (m_isRead_6, m_isMade_6, m_table_6, m_reach_6, m_next_6, m_rest_6, m_ahead_6, m_parts_6, m_total_6, m_partFrom_6, m_partTo_6, m_partWord_6, m_partEnding_6, m_found_6, m_from0_6, m_kind0_6) =>
  gd (inI m_n) <|
  if m_n = 0 then
    some ((-1), 0, m_count, m_pairs, m_n, m_fixedMany, m_breaks, m_acts, m_kept, m_keptMany, m_keptWord, m_keptKind, m_isRead_6, m_isMade_6, m_table_6, m_reach_6, m_next_6, m_rest_6, m_ahead_6, m_parts_6, m_total_6, m_partFrom_6, m_partTo_6, m_partWord_6, m_partEnding_6, m_found_6, m_from0_6, m_kind0_6)
  else
    gd (inI m_total_6) <|
    if 134217728 ≤ m_total_6 then
      some ((-1), 0, m_count, m_pairs, m_n, m_fixedMany, m_breaks, m_acts, m_kept, m_keptMany, m_keptWord, m_keptKind, m_isRead_6, m_isMade_6, m_table_6, m_reach_6, m_next_6, m_rest_6, m_ahead_6, m_parts_6, m_total_6, m_partFrom_6, m_partTo_6, m_partWord_6, m_partEnding_6, m_found_6, m_from0_6, m_kind0_6)
    else
      gd (inI m_kept) <|
      if m_kept = 40 then
        some ((-1), 0, m_count, m_pairs, m_n, m_fixedMany, m_breaks, m_acts, m_kept, m_keptMany, m_keptWord, m_keptKind, m_isRead_6, m_isMade_6, m_table_6, m_reach_6, m_next_6, m_rest_6, m_ahead_6, m_parts_6, m_total_6, m_partFrom_6, m_partTo_6, m_partWord_6, m_partEnding_6, m_found_6, m_from0_6, m_kind0_6)
      else
        gd (0 ≤ m_kept ∧ m_kept < 40) <|
        vl (uz m_keptMany (Int.toNat m_kept) m_parts_6) fun m_keptMany_48 =>
        (zloop (fun a => m_X9_take_51 a.1 0 m_spellMany m_spellPrice m_spell m_sounds m_endSounds m_kind m_itsClass m_count m_endClass m_endPrice m_words m_endings m_slip m_guess m_base m_steps m_pairs m_n m_fixedMany m_line m_breaks m_fixedFrom m_fixedTo m_fixedWord m_fixedEnding m_acts m_kept m_keptMany_48 a.2.1 a.2.2 m_isRead_6 m_isMade_6 m_table_6 m_reach_6 m_next_6 m_rest_6 m_ahead_6 m_parts_6 m_total_6 m_partFrom_6 m_partTo_6 m_partWord_6 m_partEnding_6 m_found_6 m_from0_6 m_kind0_6) FU (0, m_keptWord, m_keptKind)).bind fun (t_51, x1_51, m_keptWord_51, m_keptKind_51) =>
        (m_X9_learn m_kept 1 m_count m_pairs m_keptMany_48 m_keptWord_51 m_keptKind_51).bind fun (m_count_115, m_pairs_115) =>
        vl (m_kept + 1) fun m_kept_125 =>
        (m_X9_freeHand m_fixedMany m_breaks).bind fun (m_fixedMany_139, m_breaks_139) =>
        (m_X9_changed m_isRead_6 m_isMade_6).bind fun (m_isRead_148, m_isMade_148) =>
        some (m_parts_6, 0, m_count_115, m_pairs_115, 0, m_fixedMany_139, m_breaks_139, 0, m_kept_125, m_keptMany_48, m_keptWord_51, m_keptKind_51, m_isRead_148, m_isMade_148, m_table_6, m_reach_6, m_next_6, m_rest_6, m_ahead_6, m_parts_6, m_total_6, m_partFrom_6, m_partTo_6, m_partWord_6, m_partEnding_6, m_found_6, m_from0_6, m_kind0_6)
def m_X9_unlearn (m_code : Int) (m_count : Nat → Int) (m_pairs : Nat → Int) (m_kept : Int) (m_keptMany : Nat → Int) (m_keptWord : Nat → Int) (m_keptKind : Nat → Int) (m_isRead : Int) : Option (Int × Int × (Nat → Int) × (Nat → Int) × Int × Int) :=
  gd (inI m_kept) <|
  if m_kept = 0 then
    some ((-1), 0, m_count, m_pairs, m_kept, m_isRead)
  else
    vl (m_kept - 1) fun m_kept_21 =>
    (m_X9_learn m_kept_21 (-1) m_count m_pairs m_keptMany m_keptWord m_keptKind).bind fun (m_count_30, m_pairs_30) =>
    some (m_kept_21, 0, m_count_30, m_pairs_30, m_kept_21, 0)
def m_X9_count_17 (m_code : Int) (m_count : Nat → Int) (m_words : Int) : Option (Int × Int) :=
  (m_X9_fail m_code).bind fun (r_18, m_code_18) =>
  some (r_18, m_code_18)
def m_X9_count (x1 : Int) (m_code : Int) (m_count : Nat → Int) (m_words : Int) : Option (Int × Int) :=
  gd (inI x1) <|
  if x1 < 0 then
    m_X9_count_17 0 m_count m_words
  else
    gd (inI m_words) <|
    if x1 < m_words then
      gd (0 ≤ x1 ∧ x1 < 60) <|
      some ((m_count (Int.toNat x1)), 0)
    else
      m_X9_count_17 0 m_count m_words
def m_X9_pairs_25 (m_code : Int) (m_pairs : Nat → Int) : Option (Int × Int) :=
  (m_X9_fail m_code).bind fun (r_26, m_code_26) =>
  some (r_26, m_code_26)
def m_X9_pairs (x1 : Int) (x2 : Int) (m_code : Int) (m_pairs : Nat → Int) : Option (Int × Int) :=
  gd (inI x1) <|
  if x1 < 0 then
    m_X9_pairs_25 0 m_pairs
  else
    if 9 ≤ x1 then
      m_X9_pairs_25 0 m_pairs
    else
      gd (inI x2) <|
      if x2 < 0 then
        m_X9_pairs_25 0 m_pairs
      else
        if x2 < 9 then
          gd (0 ≤ ((9 * x1) + x2) ∧ ((9 * x1) + x2) < 81) <|
          some ((m_pairs (Int.toNat ((9 * x1) + x2))), 0)
        else
          m_X9_pairs_25 0 m_pairs
def m_X9_about (x1 : Int) (m_code : Int) (m_words : Int) (m_endings : Int) (m_fixedMany : Int) (m_acts : Int) (m_kept : Int) : Option (Int × Int) :=
  gd (inI x1) <|
  if x1 = 0 then
    some (m_words, 0)
  else
  if x1 = 1 then
    some (m_endings, 0)
  else
  if x1 = 2 then
    some (m_acts, 0)
  else
  if x1 = 3 then
    some (m_kept, 0)
  else
  if x1 = 4 then
    some (m_fixedMany, 0)
  else
  (m_X9_fail 0).bind fun (r_66, m_code_66) =>
  some (r_66, m_code_66)
abbrev zSv : Type := Int × (Nat → Int) × (Nat → Int) × (Nat → Int)
def zCopy (a b : zSv) : zSv := (b.1, zcp b.2.1 a.2.1 0 0 36, zcp b.2.2.1 a.2.2.1 0 0 36, zcp b.2.2.2 a.2.2.2 0 0 36)
abbrev zS0 : zSv := (0, fun _ => 0, fun _ => 0, fun _ => 0)
def zKeep (Rv : List zSv) (k : Nat) (v : zSv) : List zSv := if k < Rv.length then Rv.set k (zCopy (Rv.getD k zS0) v) else Rv ++ [zCopy zS0 v]
def m_X0_keep (a_ring : List zSv) (a_next a_kept : Int) (s_length : Int) (s_letters s_breaks s_fixed : Nat → Int) : Option (List zSv × Int × Int) :=
  gd (0 ≤ a_next ∧ a_next < 80) <|
  gd (a_next ≤ (a_ring.length : Int)) <|
  gd (0 ≤ a_kept ∧ a_kept ≤ 80) <|
  some (zKeep a_ring a_next.toNat (s_length, s_letters, s_breaks, s_fixed), Int.tmod (a_next + 1) 80, min (a_kept + 1) 80)
def m_X0_undo (a_ring : List zSv) (a_next a_kept : Int) (s_length : Int) (s_letters s_breaks s_fixed : Nat → Int) : Option (Int × Int × Int × Int × (Nat → Int) × (Nat → Int) × (Nat → Int)) :=
  if a_kept = 0 then
    some (0, a_next, a_kept, s_length, s_letters, s_breaks, s_fixed)
  else
    gd (0 ≤ a_next ∧ a_next < 80) <|
    gd (0 < a_kept ∧ a_kept ≤ 80) <|
    (a_ring[(Int.tmod (a_next + 80 - 1) 80).toNat]?).bind fun g =>
    some (1, Int.tmod (a_next + 80 - 1) 80, a_kept - 1, g.1, zcp g.2.1 s_letters 0 0 36, zcp g.2.2.1 s_breaks 0 0 36, zcp g.2.2.2 s_fixed 0 0 36)
def m_X8_beginAct (a_ring : List zSv) (a_next : Int) (a_kept : Int) (o_leadsKnown : Int) (o_listedPart : Int) (r_known : Int) (s_length : Int) (s_letters : Nat → Int) (s_breaks : Nat → Int) (s_fixed : Nat → Int) : Option (List zSv × Int × Int × Int × Int × Int) :=
  (m_X0_keep a_ring a_next a_kept s_length s_letters s_breaks s_fixed).bind fun (a_ring_8, a_next_8, a_kept_8) =>
  (m_X8_lineChanged o_leadsKnown o_listedPart r_known).bind fun (o_leadsKnown_12, o_listedPart_12, r_known_12) =>
  some (a_ring_8, a_next_8, a_kept_8, o_leadsKnown_12, o_listedPart_12, r_known_12)
def m_X8_spelling (x1 : Int) (x2 : Int) (x4 : Int) (b_spellingsOf : Nat → Int) (b_spellingRows : Nat → Int) (b_spellingLengths : Nat → Int) (b_spellingPrices : Nat → Int) (o_leadsKnown : Int) (o_listedPart : Int) (r_known : Int) (v_columns : Int) : Option (Int × Int × (Nat → Int) × (Nat → Int) × (Nat → Int) × (Nat → Int) × Int × Int × Int × Int) :=
  (m_X8_rowLength x2 5 26 4).bind fun r_5 =>
  gd (inI x1) <|
  if x1 < 0 then
    some (1, 0, b_spellingsOf, b_spellingRows, b_spellingLengths, b_spellingPrices, o_leadsKnown, o_listedPart, r_known, v_columns)
  else
    if 50 ≤ x1 then
      some (1, 0, b_spellingsOf, b_spellingRows, b_spellingLengths, b_spellingPrices, o_leadsKnown, o_listedPart, r_known, v_columns)
    else
      gd (inI r_5) <|
      if r_5 = 0 then
        some (1, 0, b_spellingsOf, b_spellingRows, b_spellingLengths, b_spellingPrices, o_leadsKnown, o_listedPart, r_known, v_columns)
      else
        gd (inI x4) <|
        if x4 < 0 then
          some (1, 0, b_spellingsOf, b_spellingRows, b_spellingLengths, b_spellingPrices, o_leadsKnown, o_listedPart, r_known, v_columns)
        else
          if x4 ≤ 40 then
            (m_X1_addSpelling x1 x2 r_5 x4 b_spellingsOf b_spellingRows b_spellingLengths b_spellingPrices).bind fun (r_58, b_spellingsOf_58, b_spellingRows_58, b_spellingLengths_58, b_spellingPrices_58) =>
            gd (inI r_58) <|
            if r_58 = 0 then
              some (0, (-1), b_spellingsOf_58, b_spellingRows_58, b_spellingLengths_58, b_spellingPrices_58, o_leadsKnown, o_listedPart, r_known, v_columns)
            else
              (m_X8_bookChanged o_leadsKnown o_listedPart r_known v_columns).bind fun (o_leadsKnown_67, o_listedPart_67, r_known_67, v_columns_67) =>
              gd (0 ≤ x1 ∧ x1 < 50) <|
              some (0, (b_spellingsOf_58 (Int.toNat x1)), b_spellingsOf_58, b_spellingRows_58, b_spellingLengths_58, b_spellingPrices_58, o_leadsKnown_67, o_listedPart_67, r_known_67, v_columns_67)
          else
            some (1, 0, b_spellingsOf, b_spellingRows, b_spellingLengths, b_spellingPrices, o_leadsKnown, o_listedPart, r_known, v_columns)
def m_X8_word (x1 : Int) (x3 : Int) (x5 : Int) (x6 : Int) (b_words : Int) (b_wordSounds : Nat → Int) (b_wordSigns : Nat → Int) (b_wordKinds : Nat → Int) (b_wordClasses : Nat → Int) (o_leadsKnown : Int) (o_listedPart : Int) (r_known : Int) (v_columns : Int) : Option (Int × Int × Int × (Nat → Int) × (Nat → Int) × (Nat → Int) × (Nat → Int) × Int × Int × Int × Int) :=
  (m_X8_rowLength x1 6 50 6).bind fun r_7 =>
  gd (inI r_7) <|
  if r_7 = 0 then
    some (1, 0, b_words, b_wordSounds, b_wordSigns, b_wordKinds, b_wordClasses, o_leadsKnown, o_listedPart, r_known, v_columns)
  else
    (m_X8_rowLength x3 14 16383 4).bind fun r_20 =>
    gd (inI r_20) <|
    if r_20 = 0 then
      some (1, 0, b_words, b_wordSounds, b_wordSigns, b_wordKinds, b_wordClasses, o_leadsKnown, o_listedPart, r_known, v_columns)
    else
      gd (inI x5) <|
      if x5 < 0 then
        some (1, 0, b_words, b_wordSounds, b_wordSigns, b_wordKinds, b_wordClasses, o_leadsKnown, o_listedPart, r_known, v_columns)
      else
        if 8 ≤ x5 then
          some (1, 0, b_words, b_wordSounds, b_wordSigns, b_wordKinds, b_wordClasses, o_leadsKnown, o_listedPart, r_known, v_columns)
        else
          gd (inI x6) <|
          if x6 < (-1) then
            some (1, 0, b_words, b_wordSounds, b_wordSigns, b_wordKinds, b_wordClasses, o_leadsKnown, o_listedPart, r_known, v_columns)
          else
            if x6 < 6 then
              gd (inI b_words) <|
              if b_words < 60 then
                (m_X8_bookChanged o_leadsKnown o_listedPart r_known v_columns).bind fun (o_leadsKnown_86, o_listedPart_86, r_known_86, v_columns_86) =>
                (m_X1_addWord x1 x3 x5 x6 b_words b_wordSounds b_wordSigns b_wordKinds b_wordClasses).bind fun (r_99, b_words_99, b_wordSounds_99, b_wordSigns_99, b_wordKinds_99, b_wordClasses_99) =>
                some (0, r_99, b_words_99, b_wordSounds_99, b_wordSigns_99, b_wordKinds_99, b_wordClasses_99, o_leadsKnown_86, o_listedPart_86, r_known_86, v_columns_86)
              else
                some (0, (-1), b_words, b_wordSounds, b_wordSigns, b_wordKinds, b_wordClasses, o_leadsKnown, o_listedPart, r_known, v_columns)
            else
              some (1, 0, b_words, b_wordSounds, b_wordSigns, b_wordKinds, b_wordClasses, o_leadsKnown, o_listedPart, r_known, v_columns)
def m_X8_ending (x1 : Int) (x3 : Int) (x4 : Int) (x5 : Int) (b_endings : Int) (b_endingSounds : Nat → Int) (b_endingSigns : Nat → Int) (b_endingClasses : Nat → Int) (b_endingPrices : Nat → Int) (o_leadsKnown : Int) (o_listedPart : Int) (r_known : Int) (v_columns : Int) : Option (Int × Int × Int × (Nat → Int) × (Nat → Int) × (Nat → Int) × (Nat → Int) × Int × Int × Int × Int) :=
  (m_X8_rowLength x1 6 50 3).bind fun r_6 =>
  gd (inI r_6) <|
  if r_6 = 0 then
    some (1, 0, b_endings, b_endingSounds, b_endingSigns, b_endingClasses, b_endingPrices, o_leadsKnown, o_listedPart, r_known, v_columns)
  else
    gd (inI x3) <|
    if x3 < 1 then
      some (1, 0, b_endings, b_endingSounds, b_endingSigns, b_endingClasses, b_endingPrices, o_leadsKnown, o_listedPart, r_known, v_columns)
    else
      if x3 ≤ 16383 then
        gd (inI x4) <|
        if x4 < 0 then
          some (1, 0, b_endings, b_endingSounds, b_endingSigns, b_endingClasses, b_endingPrices, o_leadsKnown, o_listedPart, r_known, v_columns)
        else
          if 6 ≤ x4 then
            some (1, 0, b_endings, b_endingSounds, b_endingSigns, b_endingClasses, b_endingPrices, o_leadsKnown, o_listedPart, r_known, v_columns)
          else
            gd (inI x5) <|
            if x5 < 0 then
              some (1, 0, b_endings, b_endingSounds, b_endingSigns, b_endingClasses, b_endingPrices, o_leadsKnown, o_listedPart, r_known, v_columns)
            else
              if x5 ≤ 60 then
                gd (inI b_endings) <|
                if b_endings < 8 then
                  (m_X8_bookChanged o_leadsKnown o_listedPart r_known v_columns).bind fun (o_leadsKnown_83, o_listedPart_83, r_known_83, v_columns_83) =>
                  (m_X1_addEnding x1 x3 x4 x5 b_endings b_endingSounds b_endingSigns b_endingClasses b_endingPrices).bind fun (r_96, b_endings_96, b_endingSounds_96, b_endingSigns_96, b_endingClasses_96, b_endingPrices_96) =>
                  some (0, r_96, b_endings_96, b_endingSounds_96, b_endingSigns_96, b_endingClasses_96, b_endingPrices_96, o_leadsKnown_83, o_listedPart_83, r_known_83, v_columns_83)
                else
                  some (0, (-1), b_endings, b_endingSounds, b_endingSigns, b_endingClasses, b_endingPrices, o_leadsKnown, o_listedPart, r_known, v_columns)
              else
                some (1, 0, b_endings, b_endingSounds, b_endingSigns, b_endingClasses, b_endingPrices, o_leadsKnown, o_listedPart, r_known, v_columns)
      else
        some (1, 0, b_endings, b_endingSounds, b_endingSigns, b_endingClasses, b_endingPrices, o_leadsKnown, o_listedPart, r_known, v_columns)
def m_X8_price (x1 : Int) (x2 : Int) (b_prices : Nat → Int) (o_leadsKnown : Int) (o_listedPart : Int) (r_known : Int) (v_columns : Int) : Option (Int × Int × (Nat → Int) × Int × Int × Int × Int) :=
  gd (inI x1) <|
  if x1 < 0 then
    some (1, 0, b_prices, o_leadsKnown, o_listedPart, r_known, v_columns)
  else
    if 3 ≤ x1 then
      some (1, 0, b_prices, o_leadsKnown, o_listedPart, r_known, v_columns)
    else
      gd (inI x2) <|
      if x2 < 0 then
        some (1, 0, b_prices, o_leadsKnown, o_listedPart, r_known, v_columns)
      else
        if x2 ≤ 200 then
          gd (0 ≤ x1 ∧ x1 < 3) <|
          vl (b_prices (Int.toNat x1)) fun x3_39 =>
          gd (0 ≤ x1 ∧ x1 < 3) <|
          vl (uz b_prices (Int.toNat x1) x2) fun b_prices_49 =>
          (m_X8_bookChanged o_leadsKnown o_listedPart r_known v_columns).bind fun (o_leadsKnown_51, o_listedPart_51, r_known_51, v_columns_51) =>
          some (0, x3_39, b_prices_49, o_leadsKnown_51, o_listedPart_51, r_known_51, v_columns_51)
        else
          some (1, 0, b_prices, o_leadsKnown, o_listedPart, r_known, v_columns)
def m_X8_step (x1 : Int) (x2 : Int) (x3 : Int) (b_stepPrices : Nat → Int) (b_pairsOf : Nat → Int) (b_stepCosts : Nat → Int) (o_leadsKnown : Int) (o_listedPart : Int) (r_known : Int) : Option (Int × Int × (Nat → Int) × (Nat → Int) × Int × Int × Int) :=
  (m_X8_areKinds x1 x2).bind fun r_2 =>
  gd (inI r_2) <|
  if r_2 = 0 then
    some (1, 0, b_stepPrices, b_stepCosts, o_leadsKnown, o_listedPart, r_known)
  else
    gd (inI x3) <|
    if x3 < 0 then
      some (1, 0, b_stepPrices, b_stepCosts, o_leadsKnown, o_listedPart, r_known)
    else
      if x3 ≤ 90 then
        gd (0 ≤ ((x1 * 9) + x2) ∧ ((x1 * 9) + x2) < 81) <|
        vl (b_stepPrices (Int.toNat ((x1 * 9) + x2))) fun x4_42 =>
        (m_X1_priceStep ((x1 * 9) + x2) x3 b_stepPrices b_pairsOf b_stepCosts).bind fun (b_stepPrices_55, b_stepCosts_55) =>
        (m_X8_lineChanged o_leadsKnown o_listedPart r_known).bind fun (o_leadsKnown_59, o_listedPart_59, r_known_59) =>
        some (0, x4_42, b_stepPrices_55, b_stepCosts_55, o_leadsKnown_59, o_listedPart_59, r_known_59)
      else
        some (1, 0, b_stepPrices, b_stepCosts, o_leadsKnown, o_listedPart, r_known)
def m_X8_type (x1 : Int) (a_ring : List zSv) (a_next : Int) (a_kept : Int) (o_leadsKnown : Int) (o_listedPart : Int) (r_known : Int) (s_length : Int) (s_letters : Nat → Int) (s_breaks : Nat → Int) (s_fixed : Nat → Int) : Option (Int × Int × List zSv × Int × Int × Int × Int × Int × Int × (Nat → Int) × (Nat → Int)) :=
  gd (inI x1) <|
  if x1 < 1 then
    some (1, 0, a_ring, a_next, a_kept, o_leadsKnown, o_listedPart, r_known, s_length, s_letters, s_breaks)
  else
    if x1 ≤ 26 then
      gd (inI s_length) <|
      if s_length < 36 then
        (m_X8_beginAct a_ring a_next a_kept o_leadsKnown o_listedPart r_known s_length s_letters s_breaks s_fixed).bind fun (a_ring_36, a_next_36, a_kept_36, o_leadsKnown_36, o_listedPart_36, r_known_36) =>
        (m_X4_append x1 s_length s_letters s_breaks s_fixed).bind fun (s_length_44, s_letters_44, s_breaks_44) =>
        some (0, s_length_44, a_ring_36, a_next_36, a_kept_36, o_leadsKnown_36, o_listedPart_36, r_known_36, s_length_44, s_letters_44, s_breaks_44)
      else
        some (0, (-1), a_ring, a_next, a_kept, o_leadsKnown, o_listedPart, r_known, s_length, s_letters, s_breaks)
    else
      some (1, 0, a_ring, a_next, a_kept, o_leadsKnown, o_listedPart, r_known, s_length, s_letters, s_breaks)
def m_X8_typed (x1 : Int) (s_length : Int) (s_letters : Nat → Int) : Option (Int × Int) :=
  gd (inI x1) <|
  if x1 = (-1) then
    some (0, s_length)
  else
    if x1 < 0 then
      some (1, 0)
    else
      gd (inI s_length) <|
      if x1 < s_length then
        gd (0 ≤ x1 ∧ x1 < 36) <|
        some (0, (s_letters (Int.toNat x1)))
      else
        some (1, 0)
