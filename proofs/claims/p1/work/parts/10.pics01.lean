def m_X6_stepBack_65 (x2 : Int) (x3 : Int) (x4 : Int) (x5 : Int) (x6 : Int) (b_spellingsOf : Nat → Int) (b_spellingRows : Nat → Int) (b_spellingLengths : Nat → Int) (b_spellingPrices : Nat → Int) (b_prices : Nat → Int) (s_letters : Nat → Int) (p_now : Nat → Int) (p_nowA : Nat) (p_next : Nat → Int) (p_nextA : Nat) (p_low : Int) (p_high : Int) : Option (Nat × (Int × Int × Int × (Nat → Int))) :=
  gd (inI x6) <|
  gd (inI p_high) <|
  if p_high < x6 then
    some (1, (x2, x3, x6, p_next))
  else
    (zloop (fun a => m_X6_stepBack_78 a.1 a.2.1 x4 x5 x6 a.2.2.1 b_spellingsOf b_spellingRows b_spellingLengths b_spellingPrices b_prices s_letters p_now p_nowA a.2.2.2 p_nextA p_low p_high) FU (x2, x3, x4, p_next)).bind fun (t_78, x2_78, x3_78, x7_78, p_next_78) =>
    vl (x6 + 1) fun x6_212 =>
    some (0, (x2_78, x3_78, x6_212, p_next_78))
def m_X6_stepBack (x1 : Int) (b_spellingsOf : Nat → Int) (b_spellingRows : Nat → Int) (b_spellingLengths : Nat → Int) (b_spellingPrices : Nat → Int) (b_prices : Nat → Int) (s_letters : Nat → Int) (p_now : Nat → Int) (p_nowA : Nat) (p_next : Nat → Int) (p_nextA : Nat) (p_low : Int) (p_high : Int) : Option ((Nat → Int) × Nat × (Nat → Int) × Nat × Int × Int) :=
  gd (inI (p_low - 4)) <|
  vl (max 0 (p_low - 4)) fun x2_10 =>
  (zloop (fun a => m_X6_stepBack_11 x1 a.1 b_spellingsOf b_spellingRows b_spellingLengths b_spellingPrices b_prices s_letters p_now p_nowA a.2 p_nextA p_low p_high) FU (x2_10, p_next)).bind fun (t_11, x2_11, p_next_11) =>
  vl (x1 * 3) fun x4_43 =>
  gd (0 ≤ x1 ∧ x1 < 50) <|
  vl (x4_43 + (b_spellingsOf (Int.toNat x1))) fun x5_57 =>
  (zloop (fun a => m_X6_stepBack_65 a.1 a.2.1 x4_43 x5_57 a.2.2.1 b_spellingsOf b_spellingRows b_spellingLengths b_spellingPrices b_prices s_letters p_now p_nowA a.2.2.2 p_nextA p_low p_high) FU (p_high, (-1), p_low, p_next_11)).bind fun (t_65, x2_65, x3_65, x6_65, p_next_65) =>
  some (p_next_65, p_nextA, p_now, p_nowA, x2_65, x3_65)
def m_X6_walkBack_5 (x1 : Int) (x4 : Int) (b_spellingsOf : Nat → Int) (b_spellingRows : Nat → Int) (b_spellingLengths : Nat → Int) (b_spellingPrices : Nat → Int) (b_prices : Nat → Int) (s_letters : Nat → Int) (p_now : Nat → Int) (p_nowA : Nat) (p_next : Nat → Int) (p_nextA : Nat) (p_low : Int) (p_high : Int) : Option (Nat × (Int × (Nat → Int) × Nat × (Nat → Int) × Nat × Int × Int)) :=
  gd (inI x4) <|
  if x4 < 0 then
    some (1, (x4, p_now, p_nowA, p_next, p_nextA, p_low, p_high))
  else
    gd (inI p_low) <|
    gd (inI p_high) <|
    if p_high < p_low then
      some (1, (x4, p_now, p_nowA, p_next, p_nextA, p_low, p_high))
    else
      gd (inL x1) <|
      gd (0 ≤ (x4 * 6) ∧ (x4 * 6) < 64) <|
      vl ((zland (x1 / 2 ^ Int.toNat (x4 * 6)) 63) - 1) fun x5_35 =>
      gd (inI x5_35) <|
      if x5_35 < 0 then
        vl (x4 + (-1)) fun x4_48 =>
        some (0, (x4_48, p_now, p_nowA, p_next, p_nextA, p_low, p_high))
      else
        (m_X6_stepBack x5_35 b_spellingsOf b_spellingRows b_spellingLengths b_spellingPrices b_prices s_letters p_now p_nowA p_next p_nextA p_low p_high).bind fun (p_now_45, p_nowA_45, p_next_45, p_nextA_45, p_low_45, p_high_45) =>
        vl (x4 + (-1)) fun x4_48_v2 =>
        some (0, (x4_48_v2, p_now_45, p_nowA_45, p_next_45, p_nextA_45, p_low_45, p_high_45))
def m_X6_walkBack (x1 : Int) (x3 : Int) (b_spellingsOf : Nat → Int) (b_spellingRows : Nat → Int) (b_spellingLengths : Nat → Int) (b_spellingPrices : Nat → Int) (b_prices : Nat → Int) (s_letters : Nat → Int) (p_now : Nat → Int) (p_nowA : Nat) (p_next : Nat → Int) (p_nextA : Nat) (p_low : Int) (p_high : Int) : Option ((Nat → Int) × Nat × (Nat → Int) × Nat × Int × Int) :=
  vl (x3 - 1) fun x4_3 =>
  (zloop (fun a => m_X6_walkBack_5 x1 a.1 b_spellingsOf b_spellingRows b_spellingLengths b_spellingPrices b_prices s_letters a.2.1 a.2.2.1 a.2.2.2.1 a.2.2.2.2.1 a.2.2.2.2.2.1 a.2.2.2.2.2.2) FU (x4_3, p_now, p_nowA, p_next, p_nextA, p_low, p_high)).bind fun (t_5, x4_5, p_now_5, p_nowA_5, p_next_5, p_nextA_5, p_low_5, p_high_5) =>
  some (p_now_5, p_nowA_5, p_next_5, p_nextA_5, p_low_5, p_high_5)
def m_X6_foundAt (x1 : Int) (p_now : Nat → Int) (p_low : Int) (p_high : Int) : Option (Int) :=
  gd (inI x1) <|
  gd (inI p_low) <|
  if x1 < p_low then
    some 268435456
  else
    gd (inI p_high) <|
    if x1 ≤ p_high then
      gd (0 ≤ x1 ∧ x1 < 37) <|
      some (p_now (Int.toNat x1))
    else
      some 268435456
def m_X6_costOf_86 (x2 : Int) (x4 : Int) (b_spellingsOf : Nat → Int) (b_spellingRows : Nat → Int) (b_spellingLengths : Nat → Int) (b_spellingPrices : Nat → Int) (b_wordSounds : Nat → Int) (b_counts : Nat → Int) (b_endingSounds : Nat → Int) (b_endingPrices : Nat → Int) (b_prices : Nat → Int) (s_letters : Nat → Int) (p_now : Nat → Int) (p_nowA : Nat) (p_next : Nat → Int) (p_nextA : Nat) (p_low : Int) (p_high : Int) : Option (Int × (Nat → Int) × Nat × (Nat → Int) × Nat × Int × Int) :=
  gd (0 ≤ x4 ∧ x4 < 60) <|
  (m_X6_walkBack (b_wordSounds (Int.toNat x4)) 6 b_spellingsOf b_spellingRows b_spellingLengths b_spellingPrices b_prices s_letters p_now p_nowA p_next p_nextA p_low p_high).bind fun (p_now_99, p_nowA_99, p_next_99, p_nextA_99, p_low_99, p_high_99) =>
  (m_X6_foundAt x2 p_now_99 p_low_99 p_high_99).bind fun r_104 =>
  gd (inI r_104) <|
  if r_104 = 268435456 then
    some (268435456, p_now_99, p_nowA_99, p_next_99, p_nextA_99, p_low_99, p_high_99)
  else
    (m_X1_wordCost x4 b_counts b_prices).bind fun r_127 =>
    some ((r_127 + (r_104 / 16)), p_now_99, p_nowA_99, p_next_99, p_nextA_99, p_low_99, p_high_99)
def m_X6_costOf (x1 : Int) (x2 : Int) (x3 : Int) (b_spellingsOf : Nat → Int) (b_spellingRows : Nat → Int) (b_spellingLengths : Nat → Int) (b_spellingPrices : Nat → Int) (b_wordSounds : Nat → Int) (b_counts : Nat → Int) (b_endingSounds : Nat → Int) (b_endingPrices : Nat → Int) (b_prices : Nat → Int) (s_letters : Nat → Int) (p_now : Nat → Int) (p_nowA : Nat) (p_next : Nat → Int) (p_nextA : Nat) (p_low : Int) (p_high : Int) : Option (Int × (Nat → Int) × Nat × (Nat → Int) × Nat × Int × Int) :=
  gd (inI x1) <|
  if x1 = 540 then
    gd (inI x3) <|
    gd (inI (x2 + 1)) <|
    if x3 = (x2 + 1) then
      some ((b_prices (Int.toNat 1)), p_now, p_nowA, p_next, p_nextA, p_low, p_high)
    else
      some (268435456, p_now, p_nowA, p_next, p_nextA, p_low, p_high)
  else
    (m_X8_wordOf x1).bind fun r_30 =>
    (m_X8_endingOf x1).bind fun r_36 =>
    (m_X6_startAt x3 0 p_now p_low p_high).bind fun (p_now_44, p_low_44, p_high_44) =>
    gd (inI r_36) <|
    if r_36 = (-1) then
      m_X6_costOf_86 x2 r_30 b_spellingsOf b_spellingRows b_spellingLengths b_spellingPrices b_wordSounds b_counts b_endingSounds b_endingPrices b_prices s_letters p_now_44 p_nowA p_next p_nextA p_low_44 p_high_44
    else
      gd (0 ≤ r_36 ∧ r_36 < 8) <|
      gd (0 ≤ x3 ∧ x3 < 37) <|
      vl (uz p_now_44 (Int.toNat x3) ((b_endingPrices (Int.toNat r_36)) * 16)) fun p_now_70 =>
      gd (0 ≤ r_36 ∧ r_36 < 8) <|
      (m_X6_walkBack (b_endingSounds (Int.toNat r_36)) 3 b_spellingsOf b_spellingRows b_spellingLengths b_spellingPrices b_prices s_letters p_now_70 p_nowA p_next p_nextA p_low_44 p_high_44).bind fun (p_now_83, p_nowA_83, p_next_83, p_nextA_83, p_low_83, p_high_83) =>
      m_X6_costOf_86 x2 r_30 b_spellingsOf b_spellingRows b_spellingLengths b_spellingPrices b_wordSounds b_counts b_endingSounds b_endingPrices b_prices s_letters p_now_83 p_nowA_83 p_next_83 p_nextA_83 p_low_83 p_high_83
def m_X6_seedEndings_80 (x1 : Int) (x2 : Int) (x3 : Int) (x4 : Int) (b_spellingsOf : Nat → Int) (b_spellingRows : Nat → Int) (b_spellingLengths : Nat → Int) (b_spellingPrices : Nat → Int) (b_endings : Int) (b_endingSounds : Nat → Int) (b_endingClasses : Nat → Int) (b_endingPrices : Nat → Int) (b_prices : Nat → Int) (s_letters : Nat → Int) (p_now : Nat → Int) (p_nowA : Nat) (p_next : Nat → Int) (p_nextA : Nat) (p_low : Int) (p_high : Int) (p_seeds : Nat → Int) (p_seedLows : Nat → Int) : Option (Nat × (Int × (Nat → Int))) :=
  gd (inI x4) <|
  gd (inI p_high) <|
  if p_high < x4 then
    some (1, (x4, p_seeds))
  else
    vl ((x3 * 37) + x4) fun x5_96 =>
    gd (0 ≤ x5_96 ∧ x5_96 < 222) <|
    gd (0 ≤ x4 ∧ x4 < 37) <|
    gd (inI (p_seeds (Int.toNat x5_96))) <|
    gd (inI (p_now (Int.toNat x4))) <|
    gd (0 ≤ x5_96 ∧ x5_96 < 222) <|
    vl (uz p_seeds (Int.toNat x5_96) (min (p_seeds (Int.toNat x5_96)) (p_now (Int.toNat x4)))) fun p_seeds_121 =>
    vl (x4 + 1) fun x4_122 =>
    some (0, (x4_122, p_seeds_121))
def m_X6_seedEndings_19 (x1 : Int) (x2 : Int) (b_spellingsOf : Nat → Int) (b_spellingRows : Nat → Int) (b_spellingLengths : Nat → Int) (b_spellingPrices : Nat → Int) (b_endings : Int) (b_endingSounds : Nat → Int) (b_endingClasses : Nat → Int) (b_endingPrices : Nat → Int) (b_prices : Nat → Int) (s_letters : Nat → Int) (p_now : Nat → Int) (p_nowA : Nat) (p_next : Nat → Int) (p_nextA : Nat) (p_low : Int) (p_high : Int) (p_seeds : Nat → Int) (p_seedLows : Nat → Int) : Option (Nat × (Int × (Nat → Int) × Nat × (Nat → Int) × Nat × Int × Int × (Nat → Int) × (Nat → Int))) :=
  gd (inI x2) <|
  gd (inI b_endings) <|
  if b_endings ≤ x2 then
    some (1, (x2, p_now, p_nowA, p_next, p_nextA, p_low, p_high, p_seeds, p_seedLows))
  else
    gd (0 ≤ x2 ∧ x2 < 8) <|
    (m_X6_startAt x1 ((((b_endingPrices (Int.toNat x2)) * 16) + x2) + 1) p_now p_low p_high).bind fun (p_now_47, p_low_47, p_high_47) =>
    gd (0 ≤ x2 ∧ x2 < 8) <|
    (m_X6_walkBack (b_endingSounds (Int.toNat x2)) 3 b_spellingsOf b_spellingRows b_spellingLengths b_spellingPrices b_prices s_letters p_now_47 p_nowA p_next p_nextA p_low_47 p_high_47).bind fun (p_now_61, p_nowA_61, p_next_61, p_nextA_61, p_low_61, p_high_61) =>
    gd (0 ≤ x2 ∧ x2 < 8) <|
    vl (b_endingClasses (Int.toNat x2)) fun x3_73 =>
    (zloop (fun a => m_X6_seedEndings_80 x1 x2 x3_73 a.1 b_spellingsOf b_spellingRows b_spellingLengths b_spellingPrices b_endings b_endingSounds b_endingClasses b_endingPrices b_prices s_letters p_now_61 p_nowA_61 p_next_61 p_nextA_61 p_low_61 p_high_61 a.2 p_seedLows) FU (p_low_61, p_seeds)).bind fun (t_80, x4_80, p_seeds_80) =>
    gd (inI p_low_61) <|
    gd (inI p_high_61) <|
    if p_high_61 < p_low_61 then
      vl (x2 + 1) fun x2_158 =>
      some (0, (x2_158, p_now_61, p_nowA_61, p_next_61, p_nextA_61, p_low_61, p_high_61, p_seeds_80, p_seedLows))
    else
      gd (0 ≤ x3_73 ∧ x3_73 < 6) <|
      gd (inI (p_seedLows (Int.toNat x3_73))) <|
      gd (0 ≤ x3_73 ∧ x3_73 < 6) <|
      vl (uz p_seedLows (Int.toNat x3_73) (min (p_seedLows (Int.toNat x3_73)) p_low_61)) fun p_seedLows_157 =>
      vl (x2 + 1) fun x2_158_v2 =>
      some (0, (x2_158_v2, p_now_61, p_nowA_61, p_next_61, p_nextA_61, p_low_61, p_high_61, p_seeds_80, p_seedLows_157))
def m_X6_seedEndings (x1 : Int) (b_spellingsOf : Nat → Int) (b_spellingRows : Nat → Int) (b_spellingLengths : Nat → Int) (b_spellingPrices : Nat → Int) (b_endings : Int) (b_endingSounds : Nat → Int) (b_endingClasses : Nat → Int) (b_endingPrices : Nat → Int) (b_prices : Nat → Int) (s_letters : Nat → Int) (p_now : Nat → Int) (p_nowA : Nat) (p_next : Nat → Int) (p_nextA : Nat) (p_low : Int) (p_high : Int) (p_seeds : Nat → Int) (p_seedLows : Nat → Int) : Option ((Nat → Int) × Nat × (Nat → Int) × Nat × Int × Int × (Nat → Int) × (Nat → Int)) :=
  (m_J7_fill_53178 x1 p_seedLows 6).bind fun p_seedLows_5 =>
  (m_J7_fill_53178 268435456 p_seeds 222).bind fun p_seeds_14 =>
  (zloop (fun a => m_X6_seedEndings_19 x1 a.1 b_spellingsOf b_spellingRows b_spellingLengths b_spellingPrices b_endings b_endingSounds b_endingClasses b_endingPrices b_prices s_letters a.2.1 a.2.2.1 a.2.2.2.1 a.2.2.2.2.1 a.2.2.2.2.2.1 a.2.2.2.2.2.2.1 a.2.2.2.2.2.2.2.1 a.2.2.2.2.2.2.2.2) FU (0, p_now, p_nowA, p_next, p_nextA, p_low, p_high, p_seeds_14, p_seedLows_5)).bind fun (t_19, x2_19, p_now_19, p_nowA_19, p_next_19, p_nextA_19, p_low_19, p_high_19, p_seeds_19, p_seedLows_19) =>
  some (p_now_19, p_nowA_19, p_next_19, p_nextA_19, p_low_19, p_high_19, p_seeds_19, p_seedLows_19)
def m_X6_walkWord_61 (x1 : Int) (b_spellingsOf : Nat → Int) (b_spellingRows : Nat → Int) (b_spellingLengths : Nat → Int) (b_spellingPrices : Nat → Int) (b_wordSounds : Nat → Int) (b_wordClasses : Nat → Int) (b_prices : Nat → Int) (s_letters : Nat → Int) (p_now : Nat → Int) (p_nowA : Nat) (p_next : Nat → Int) (p_nextA : Nat) (p_low : Int) (p_high : Int) (p_seeds : Nat → Int) (p_seedLows : Nat → Int) : Option ((Nat → Int) × Nat × (Nat → Int) × Nat × Int × Int) :=
  gd (0 ≤ x1 ∧ x1 < 60) <|
  (m_X6_walkBack (b_wordSounds (Int.toNat x1)) 6 b_spellingsOf b_spellingRows b_spellingLengths b_spellingPrices b_prices s_letters p_now p_nowA p_next p_nextA p_low p_high).bind fun (p_now_73, p_nowA_73, p_next_73, p_nextA_73, p_low_73, p_high_73) =>
  some (p_now_73, p_nowA_73, p_next_73, p_nextA_73, p_low_73, p_high_73)
def m_X6_walkWord (x1 : Int) (x2 : Int) (b_spellingsOf : Nat → Int) (b_spellingRows : Nat → Int) (b_spellingLengths : Nat → Int) (b_spellingPrices : Nat → Int) (b_wordSounds : Nat → Int) (b_wordClasses : Nat → Int) (b_prices : Nat → Int) (s_letters : Nat → Int) (p_now : Nat → Int) (p_nowA : Nat) (p_next : Nat → Int) (p_nextA : Nat) (p_low : Int) (p_high : Int) (p_seeds : Nat → Int) (p_seedLows : Nat → Int) : Option ((Nat → Int) × Nat × (Nat → Int) × Nat × Int × Int) :=
  (m_X6_startAt x2 0 p_now p_low p_high).bind fun (p_now_3, p_low_3, p_high_3) =>
  gd (0 ≤ x1 ∧ x1 < 60) <|
  vl (b_wordClasses (Int.toNat x1)) fun x3_15 =>
  gd (inI x3_15) <|
  if x3_15 = (-1) then
    m_X6_walkWord_61 x1 b_spellingsOf b_spellingRows b_spellingLengths b_spellingPrices b_wordSounds b_wordClasses b_prices s_letters p_now_3 p_nowA p_next p_nextA p_low_3 p_high_3 p_seeds p_seedLows
  else
    gd (0 ≤ x3_15 ∧ x3_15 < 6) <|
    vl (p_seedLows (Int.toNat x3_15)) fun p_low_28 =>
    gd (0 ≤ ((x3_15 * 37) + p_low_28) ∧ 0 ≤ p_low_28 ∧ 0 ≤ (x2 - p_low_28) ∧ ((x3_15 * 37) + p_low_28) + (x2 - p_low_28) ≤ 222 ∧ p_low_28 + (x2 - p_low_28) ≤ 37) <|
    vl (zcp p_seeds p_now_3 (Int.toNat ((x3_15 * 37) + p_low_28)) (Int.toNat p_low_28) (Int.toNat (x2 - p_low_28))) fun p_now_58 =>
    m_X6_walkWord_61 x1 b_spellingsOf b_spellingRows b_spellingLengths b_spellingPrices b_wordSounds b_wordClasses b_prices s_letters p_now_58 p_nowA p_next p_nextA p_low_28 p_high_3 p_seeds p_seedLows
def m_X5_enter_18 (x1 : Int) (x2 : Int) (x3 : Int) (x4 : Int) (b_counts : Nat → Int) (b_prices : Nat → Int) (v_values : Nat → Int) (p_now : Nat → Int) (p_low : Int) (p_high : Int) : Option (Nat × (Int × (Nat → Int))) :=
  gd (inI x4) <|
  gd (inI p_high) <|
  if p_high < x4 then
    some (1, (x4, v_values))
  else
    gd (0 ≤ x4 ∧ x4 < 37) <|
    vl (p_now (Int.toNat x4)) fun x5_40 =>
    gd (inI x5_40) <|
    if x5_40 = 268435456 then
      vl (x4 + 1) fun x4_103 =>
      some (0, (x4_103, v_values))
    else
      vl ((x1 * 9) + (x5_40 % 16)) fun x6_59 =>
      vl (((x3 + (x5_40 / 16)) * 1024) + x6_59) fun x7_73 =>
      vl (x2 + (x4 * 9)) fun x8_82 =>
      gd (0 ≤ x8_82 ∧ x8_82 < 5994) <|
      gd (inI (v_values (Int.toNat x8_82))) <|
      gd (inI x7_73) <|
      gd (0 ≤ x8_82 ∧ x8_82 < 5994) <|
      vl (uz v_values (Int.toNat x8_82) (min (v_values (Int.toNat x8_82)) x7_73)) fun v_values_102 =>
      vl (x4 + 1) fun x4_103_v2 =>
      some (0, (x4_103_v2, v_values_102))
def m_X5_enter (x1 : Int) (x2 : Int) (b_counts : Nat → Int) (b_prices : Nat → Int) (v_values : Nat → Int) (p_now : Nat → Int) (p_low : Int) (p_high : Int) : Option ((Nat → Int)) :=
  (m_X1_wordCost x1 b_counts b_prices).bind fun r_5 =>
  (zloop (fun a => m_X5_enter_18 x1 x2 r_5 a.1 b_counts b_prices a.2 p_now p_low p_high) FU (p_low, v_values)).bind fun (t_18, x4_18, v_values_18) =>
  some v_values_18
def m_X5_fillColumn_57 (x1 : Int) (x2 : Int) (x3 : Int) (b_spellingsOf : Nat → Int) (b_spellingRows : Nat → Int) (b_spellingLengths : Nat → Int) (b_spellingPrices : Nat → Int) (b_words : Int) (b_wordSounds : Nat → Int) (b_wordKinds : Nat → Int) (b_wordClasses : Nat → Int) (b_counts : Nat → Int) (b_prices : Nat → Int) (s_letters : Nat → Int) (v_values : Nat → Int) (p_now : Nat → Int) (p_nowA : Nat) (p_next : Nat → Int) (p_nextA : Nat) (p_low : Int) (p_high : Int) (p_seeds : Nat → Int) (p_seedLows : Nat → Int) : Option (Nat × (Int × (Nat → Int) × (Nat → Int) × Nat × (Nat → Int) × Nat × Int × Int)) :=
  gd (inI x3) <|
  gd (inI b_words) <|
  if b_words ≤ x3 then
    some (1, (x3, v_values, p_now, p_nowA, p_next, p_nextA, p_low, p_high))
  else
    (m_X6_walkWord x3 x1 b_spellingsOf b_spellingRows b_spellingLengths b_spellingPrices b_wordSounds b_wordClasses b_prices s_letters p_now p_nowA p_next p_nextA p_low p_high p_seeds p_seedLows).bind fun (p_now_74, p_nowA_74, p_next_74, p_nextA_74, p_low_74, p_high_74) =>
    gd (inI p_low_74) <|
    gd (inI p_high_74) <|
    if p_high_74 < p_low_74 then
      vl (x3 + 1) fun x3_110 =>
      some (0, (x3_110, v_values, p_now_74, p_nowA_74, p_next_74, p_nextA_74, p_low_74, p_high_74))
    else
      gd (0 ≤ x3 ∧ x3 < 60) <|
      (m_X5_enter x3 (x2 + (b_wordKinds (Int.toNat x3))) b_counts b_prices v_values p_now_74 p_low_74 p_high_74).bind fun v_values_107 =>
      vl (x3 + 1) fun x3_110_v2 =>
      some (0, (x3_110_v2, v_values_107, p_now_74, p_nowA_74, p_next_74, p_nextA_74, p_low_74, p_high_74))
def m_X5_fillColumn (x1 : Int) (b_spellingsOf : Nat → Int) (b_spellingRows : Nat → Int) (b_spellingLengths : Nat → Int) (b_spellingPrices : Nat → Int) (b_words : Int) (b_wordSounds : Nat → Int) (b_wordKinds : Nat → Int) (b_wordClasses : Nat → Int) (b_counts : Nat → Int) (b_prices : Nat → Int) (s_letters : Nat → Int) (v_values : Nat → Int) (p_now : Nat → Int) (p_nowA : Nat) (p_next : Nat → Int) (p_nextA : Nat) (p_low : Int) (p_high : Int) (p_seeds : Nat → Int) (p_seedLows : Nat → Int) : Option ((Nat → Int) × (Nat → Int) × Nat × (Nat → Int) × Nat × Int × Int) :=
  (m_X5_placeOf 0 x1).bind fun r_3 =>
  (m_X8_fillRange r_3 (r_3 + (x1 * 9)) 2147483647 v_values 5994).bind fun v_values_20 =>
  (m_X5_placeOf (x1 - 1) x1).bind fun r_32 =>
  gd (0 ≤ (r_32 + 8) ∧ (r_32 + 8) < 5994) <|
  vl (uz v_values_20 (Int.toNat (r_32 + 8)) (((b_prices (Int.toNat 1)) * 1024) + 540)) fun v_values_54 =>
  (zloop (fun a => m_X5_fillColumn_57 x1 r_3 a.1 b_spellingsOf b_spellingRows b_spellingLengths b_spellingPrices b_words b_wordSounds b_wordKinds b_wordClasses b_counts b_prices s_letters a.2.1 a.2.2.1 a.2.2.2.1 a.2.2.2.2.1 a.2.2.2.2.2.1 a.2.2.2.2.2.2.1 a.2.2.2.2.2.2.2 p_seeds p_seedLows) FU (0, v_values_54, p_now, p_nowA, p_next, p_nextA, p_low, p_high)).bind fun (t_57, x3_57, v_values_57, p_now_57, p_nowA_57, p_next_57, p_nextA_57, p_low_57, p_high_57) =>
  some (v_values_57, p_now_57, p_nowA_57, p_next_57, p_nextA_57, p_low_57, p_high_57)
def m_X5_renew_2 (x1 : Int) (b_spellingsOf : Nat → Int) (b_spellingRows : Nat → Int) (b_spellingLengths : Nat → Int) (b_spellingPrices : Nat → Int) (b_words : Int) (b_wordSounds : Nat → Int) (b_wordKinds : Nat → Int) (b_wordClasses : Nat → Int) (b_counts : Nat → Int) (b_endings : Int) (b_endingSounds : Nat → Int) (b_endingClasses : Nat → Int) (b_endingPrices : Nat → Int) (b_prices : Nat → Int) (s_length : Int) (s_letters : Nat → Int) (v_values : Nat → Int) (v_lettersRead : Nat → Int) (v_columns : Int) (p_now : Nat → Int) (p_nowA : Nat) (p_next : Nat → Int) (p_nextA : Nat) (p_low : Int) (p_high : Int) (p_seeds : Nat → Int) (p_seedLows : Nat → Int) : Option (Nat × (Int)) :=
  gd (inI x1) <|
  gd (inI v_columns) <|
  if v_columns ≤ x1 then
    some (1, x1)
  else
    gd (inI s_length) <|
    if s_length ≤ x1 then
      some (1, x1)
    else
      gd (0 ≤ x1 ∧ x1 < 36) <|
      gd (0 ≤ x1 ∧ x1 < 36) <|
      gd (inI (v_lettersRead (Int.toNat x1))) <|
      gd (inI (s_letters (Int.toNat x1))) <|
      if (v_lettersRead (Int.toNat x1)) = (s_letters (Int.toNat x1)) then
        vl (x1 + 1) fun x1_39 =>
        some (0, x1_39)
      else
        some (1, x1)
def m_X5_renew_49 (x2 : Int) (b_spellingsOf : Nat → Int) (b_spellingRows : Nat → Int) (b_spellingLengths : Nat → Int) (b_spellingPrices : Nat → Int) (b_words : Int) (b_wordSounds : Nat → Int) (b_wordKinds : Nat → Int) (b_wordClasses : Nat → Int) (b_counts : Nat → Int) (b_endings : Int) (b_endingSounds : Nat → Int) (b_endingClasses : Nat → Int) (b_endingPrices : Nat → Int) (b_prices : Nat → Int) (s_length : Int) (s_letters : Nat → Int) (v_values : Nat → Int) (v_lettersRead : Nat → Int) (v_columns : Int) (p_now : Nat → Int) (p_nowA : Nat) (p_next : Nat → Int) (p_nextA : Nat) (p_low : Int) (p_high : Int) (p_seeds : Nat → Int) (p_seedLows : Nat → Int) : Option (Nat × (Int × (Nat → Int) × (Nat → Int) × Int × (Nat → Int) × Nat × (Nat → Int) × Nat × Int × Int × (Nat → Int) × (Nat → Int))) :=
  gd (inI x2) <|
  gd (inI s_length) <|
  if s_length < x2 then
    some (1, (x2, v_values, v_lettersRead, v_columns, p_now, p_nowA, p_next, p_nextA, p_low, p_high, p_seeds, p_seedLows))
  else
    gd (0 ≤ (x2 - 1) ∧ (x2 - 1) < 36) <|
    gd (0 ≤ (x2 - 1) ∧ (x2 - 1) < 36) <|
    vl (uz v_lettersRead (Int.toNat (x2 - 1)) (s_letters (Int.toNat (x2 - 1)))) fun v_lettersRead_78 =>
    (m_X6_seedEndings x2 b_spellingsOf b_spellingRows b_spellingLengths b_spellingPrices b_endings b_endingSounds b_endingClasses b_endingPrices b_prices s_letters p_now p_nowA p_next p_nextA p_low p_high p_seeds p_seedLows).bind fun (p_now_84, p_nowA_84, p_next_84, p_nextA_84, p_low_84, p_high_84, p_seeds_84, p_seedLows_84) =>
    (m_X5_fillColumn x2 b_spellingsOf b_spellingRows b_spellingLengths b_spellingPrices b_words b_wordSounds b_wordKinds b_wordClasses b_counts b_prices s_letters v_values p_now_84 p_nowA_84 p_next_84 p_nextA_84 p_low_84 p_high_84 p_seeds_84 p_seedLows_84).bind fun (v_values_89, p_now_89, p_nowA_89, p_next_89, p_nextA_89, p_low_89, p_high_89) =>
    vl (x2 + 1) fun x2_97 =>
    some (0, (x2_97, v_values_89, v_lettersRead_78, x2, p_now_89, p_nowA_89, p_next_89, p_nextA_89, p_low_89, p_high_89, p_seeds_84, p_seedLows_84))
def m_X5_renew_45 (x1 : Int) (b_spellingsOf : Nat → Int) (b_spellingRows : Nat → Int) (b_spellingLengths : Nat → Int) (b_spellingPrices : Nat → Int) (b_words : Int) (b_wordSounds : Nat → Int) (b_wordKinds : Nat → Int) (b_wordClasses : Nat → Int) (b_counts : Nat → Int) (b_endings : Int) (b_endingSounds : Nat → Int) (b_endingClasses : Nat → Int) (b_endingPrices : Nat → Int) (b_prices : Nat → Int) (s_length : Int) (s_letters : Nat → Int) (v_values : Nat → Int) (v_lettersRead : Nat → Int) (v_columns : Int) (p_now : Nat → Int) (p_nowA : Nat) (p_next : Nat → Int) (p_nextA : Nat) (p_low : Int) (p_high : Int) (p_seeds : Nat → Int) (p_seedLows : Nat → Int) : Option ((Nat → Int) × (Nat → Int) × Int × (Nat → Int) × Nat × (Nat → Int) × Nat × Int × Int × (Nat → Int) × (Nat → Int)) :=
  vl (x1 + 1) fun x2_48 =>
  (zloop (fun a => m_X5_renew_49 a.1 b_spellingsOf b_spellingRows b_spellingLengths b_spellingPrices b_words b_wordSounds b_wordKinds b_wordClasses b_counts b_endings b_endingSounds b_endingClasses b_endingPrices b_prices s_length s_letters a.2.1 a.2.2.1 a.2.2.2.1 a.2.2.2.2.1 a.2.2.2.2.2.1 a.2.2.2.2.2.2.1 a.2.2.2.2.2.2.2.1 a.2.2.2.2.2.2.2.2.1 a.2.2.2.2.2.2.2.2.2.1 a.2.2.2.2.2.2.2.2.2.2.1 a.2.2.2.2.2.2.2.2.2.2.2) FU (x2_48, v_values, v_lettersRead, v_columns, p_now, p_nowA, p_next, p_nextA, p_low, p_high, p_seeds, p_seedLows)).bind fun (t_49, x2_49, v_values_49, v_lettersRead_49, v_columns_49, p_now_49, p_nowA_49, p_next_49, p_nextA_49, p_low_49, p_high_49, p_seeds_49, p_seedLows_49) =>
  some (v_values_49, v_lettersRead_49, v_columns_49, p_now_49, p_nowA_49, p_next_49, p_nextA_49, p_low_49, p_high_49, p_seeds_49, p_seedLows_49)
def m_X5_renew (b_spellingsOf : Nat → Int) (b_spellingRows : Nat → Int) (b_spellingLengths : Nat → Int) (b_spellingPrices : Nat → Int) (b_words : Int) (b_wordSounds : Nat → Int) (b_wordKinds : Nat → Int) (b_wordClasses : Nat → Int) (b_counts : Nat → Int) (b_endings : Int) (b_endingSounds : Nat → Int) (b_endingClasses : Nat → Int) (b_endingPrices : Nat → Int) (b_prices : Nat → Int) (s_length : Int) (s_letters : Nat → Int) (v_values : Nat → Int) (v_lettersRead : Nat → Int) (v_columns : Int) (p_now : Nat → Int) (p_nowA : Nat) (p_next : Nat → Int) (p_nextA : Nat) (p_low : Int) (p_high : Int) (p_seeds : Nat → Int) (p_seedLows : Nat → Int) : Option ((Nat → Int) × (Nat → Int) × Int × (Nat → Int) × Nat × (Nat → Int) × Nat × Int × Int × (Nat → Int) × (Nat → Int)) :=
  (zloop (fun a => m_X5_renew_2 a b_spellingsOf b_spellingRows b_spellingLengths b_spellingPrices b_words b_wordSounds b_wordKinds b_wordClasses b_counts b_endings b_endingSounds b_endingClasses b_endingPrices b_prices s_length s_letters v_values v_lettersRead v_columns p_now p_nowA p_next p_nextA p_low p_high p_seeds p_seedLows) FU 0).bind fun (t_2, x1_2) =>
  m_X5_renew_45 x1_2 b_spellingsOf b_spellingRows b_spellingLengths b_spellingPrices b_words b_wordSounds b_wordKinds b_wordClasses b_counts b_endings b_endingSounds b_endingClasses b_endingPrices b_prices s_length s_letters v_values v_lettersRead v_columns p_now p_nowA p_next p_nextA p_low p_high p_seeds p_seedLows
def m_X5_forget (v_columns : Int) : Option (Int) :=
  some 0
def m_X3_valueOf_67 (x1 : Int) (t0 : Int) (b_wordKinds : Nat → Int) (r_fixedValues : Nat → Int) (s_fixed : Nat → Int) (v_values : Nat → Int) : Option (Int) :=
  gd (inI t0) <|
  if t0 = 0 then
    some 2147483647
  else
    gd (0 ≤ x1 ∧ x1 < 36) <|
    some (r_fixedValues (Int.toNat x1))
def m_X3_valueOf_66 (x1 : Int) (b_wordKinds : Nat → Int) (r_fixedValues : Nat → Int) (s_fixed : Nat → Int) (v_values : Nat → Int) : Option (Int) :=
  m_X3_valueOf_67 x1 0 b_wordKinds r_fixedValues s_fixed v_values
def m_X3_valueOf (x1 : Int) (x2 : Int) (x3 : Int) (b_wordKinds : Nat → Int) (r_fixedValues : Nat → Int) (s_fixed : Nat → Int) (v_values : Nat → Int) : Option (Int) :=
  gd (0 ≤ x1 ∧ x1 < 36) <|
  vl (s_fixed (Int.toNat x1)) fun x4_9 =>
  gd (inI x4_9) <|
  if x4_9 = 0 then
    (m_X5_placeOf x1 x2).bind fun r_29 =>
    gd (0 ≤ (r_29 + x3) ∧ (r_29 + x3) < 5994) <|
    some (v_values (Int.toNat (r_29 + x3)))
  else
    gd (inI (x4_9 / 1024)) <|
    gd (inI x2) <|
    if (x4_9 / 1024) = x2 then
      (m_X1_kindOf (x4_9 % 1024) b_wordKinds).bind fun r_55 =>
      gd (inI r_55) <|
      gd (inI x3) <|
      if r_55 = x3 then
        m_X3_valueOf_67 x1 1 b_wordKinds r_fixedValues s_fixed v_values
      else
        m_X3_valueOf_66 x1 b_wordKinds r_fixedValues s_fixed v_values
    else
      m_X3_valueOf_66 x1 b_wordKinds r_fixedValues s_fixed v_values
def m_X3_forget (r_known : Int) : Option (Int) :=
  some 0
def m_X3_valueFixedParts_2 (x1 : Int) (b_spellingsOf : Nat → Int) (b_spellingRows : Nat → Int) (b_spellingLengths : Nat → Int) (b_spellingPrices : Nat → Int) (b_wordSounds : Nat → Int) (b_counts : Nat → Int) (b_endingSounds : Nat → Int) (b_endingPrices : Nat → Int) (b_prices : Nat → Int) (r_fixedValues : Nat → Int) (s_length : Int) (s_letters : Nat → Int) (s_fixed : Nat → Int) (p_now : Nat → Int) (p_nowA : Nat) (p_next : Nat → Int) (p_nextA : Nat) (p_low : Int) (p_high : Int) : Option (Nat × (Int × (Nat → Int) × (Nat → Int) × Nat × (Nat → Int) × Nat × Int × Int)) :=
  gd (inI x1) <|
  gd (inI s_length) <|
  if s_length ≤ x1 then
    some (1, (x1, r_fixedValues, p_now, p_nowA, p_next, p_nextA, p_low, p_high))
  else
    gd (0 ≤ x1 ∧ x1 < 36) <|
    gd (inI (s_fixed (Int.toNat x1))) <|
    if (s_fixed (Int.toNat x1)) = 0 then
      vl (x1 + 1) fun x1_84 =>
      some (0, (x1_84, r_fixedValues, p_now, p_nowA, p_next, p_nextA, p_low, p_high))
    else
      gd (0 ≤ x1 ∧ x1 < 36) <|
      vl ((s_fixed (Int.toNat x1)) % 1024) fun x2_38 =>
      gd (0 ≤ x1 ∧ x1 < 36) <|
      (m_X6_costOf x2_38 x1 ((s_fixed (Int.toNat x1)) / 1024) b_spellingsOf b_spellingRows b_spellingLengths b_spellingPrices b_wordSounds b_counts b_endingSounds b_endingPrices b_prices s_letters p_now p_nowA p_next p_nextA p_low p_high).bind fun (r_57, p_now_57, p_nowA_57, p_next_57, p_nextA_57, p_low_57, p_high_57) =>
      gd (inI r_57) <|
      if r_57 = 268435456 then
        gd (0 ≤ x1 ∧ x1 < 36) <|
        vl (uz r_fixedValues (Int.toNat x1) 2147483647) fun r_fixedValues_83_v2 =>
        vl (x1 + 1) fun x1_84_v3 =>
        some (0, (x1_84_v3, r_fixedValues_83_v2, p_now_57, p_nowA_57, p_next_57, p_nextA_57, p_low_57, p_high_57))
      else
        gd (0 ≤ x1 ∧ x1 < 36) <|
        vl (uz r_fixedValues (Int.toNat x1) ((r_57 * 1024) + x2_38)) fun r_fixedValues_83 =>
        vl (x1 + 1) fun x1_84_v2 =>
        some (0, (x1_84_v2, r_fixedValues_83, p_now_57, p_nowA_57, p_next_57, p_nextA_57, p_low_57, p_high_57))
def m_X3_valueFixedParts (b_spellingsOf : Nat → Int) (b_spellingRows : Nat → Int) (b_spellingLengths : Nat → Int) (b_spellingPrices : Nat → Int) (b_wordSounds : Nat → Int) (b_counts : Nat → Int) (b_endingSounds : Nat → Int) (b_endingPrices : Nat → Int) (b_prices : Nat → Int) (r_fixedValues : Nat → Int) (s_length : Int) (s_letters : Nat → Int) (s_fixed : Nat → Int) (p_now : Nat → Int) (p_nowA : Nat) (p_next : Nat → Int) (p_nextA : Nat) (p_low : Int) (p_high : Int) : Option ((Nat → Int) × (Nat → Int) × Nat × (Nat → Int) × Nat × Int × Int) :=
  (zloop (fun a => m_X3_valueFixedParts_2 a.1 b_spellingsOf b_spellingRows b_spellingLengths b_spellingPrices b_wordSounds b_counts b_endingSounds b_endingPrices b_prices a.2.1 s_length s_letters s_fixed a.2.2.1 a.2.2.2.1 a.2.2.2.2.1 a.2.2.2.2.2.1 a.2.2.2.2.2.2.1 a.2.2.2.2.2.2.2) FU (0, r_fixedValues, p_now, p_nowA, p_next, p_nextA, p_low, p_high)).bind fun (t_2, x1_2, r_fixedValues_2, p_now_2, p_nowA_2, p_next_2, p_nextA_2, p_low_2, p_high_2) =>
  some (r_fixedValues_2, p_now_2, p_nowA_2, p_next_2, p_nextA_2, p_low_2, p_high_2)
def m_X3_fillHeads_52 (x1 : Int) (x2 : Int) (x3 : Int) (x4 : Int) (b_wordKinds : Nat → Int) (r_fixedValues : Nat → Int) (r_heads : Nat → Int) (r_rests : Nat → Int) (s_length : Int) (s_breaks : Nat → Int) (s_fixed : Nat → Int) (v_values : Nat → Int) : Option (Nat × (Int × (Nat → Int))) :=
  gd (inI x4) <|
  if 9 ≤ x4 then
    some (1, (x4, r_heads))
  else
    (m_X4_partsAt x3 s_length s_breaks).bind fun r_64 =>
    gd (inI r_64) <|
    if r_64 = 0 then
      some (1, (x4, r_heads))
    else
      (m_X3_valueOf x1 x3 x4 b_wordKinds r_fixedValues s_fixed v_values).bind fun r_75 =>
      gd (0 ≤ ((x3 * 9) + x4) ∧ ((x3 * 9) + x4) < 333) <|
      vl (r_rests (Int.toNat ((x3 * 9) + x4))) fun x6_92 =>
      gd (inI r_75) <|
      if r_75 = 2147483647 then
        vl (x4 + 1) fun x4_142 =>
        some (0, (x4_142, r_heads))
      else
        gd (inI x6_92) <|
        if 268435456 ≤ x6_92 then
          vl (x4 + 1) fun x4_142_v2 =>
          some (0, (x4_142_v2, r_heads))
        else
          vl ((x1 * 9) + x4) fun x7_115 =>
          gd (0 ≤ x7_115 ∧ x7_115 < 324) <|
          gd (inI (r_heads (Int.toNat x7_115))) <|
          gd (inI ((r_75 / 1024) + x6_92)) <|
          gd (0 ≤ x7_115 ∧ x7_115 < 324) <|
          vl (uz r_heads (Int.toNat x7_115) (min (r_heads (Int.toNat x7_115)) ((r_75 / 1024) + x6_92))) fun r_heads_141 =>
          vl (x4 + 1) fun x4_142_v3 =>
          some (0, (x4_142_v3, r_heads_141))
def m_X3_fillHeads_44 (x1 : Int) (x2 : Int) (x3 : Int) (b_wordKinds : Nat → Int) (r_fixedValues : Nat → Int) (r_heads : Nat → Int) (r_rests : Nat → Int) (s_length : Int) (s_breaks : Nat → Int) (s_fixed : Nat → Int) (v_values : Nat → Int) : Option (Nat × (Int × (Nat → Int))) :=
  gd (inI x3) <|
  gd (inI x2) <|
  if x2 < x3 then
    some (1, (x3, r_heads))
  else
    (zloop (fun a => m_X3_fillHeads_52 x1 x2 x3 a.1 b_wordKinds r_fixedValues a.2 r_rests s_length s_breaks s_fixed v_values) FU (0, r_heads)).bind fun (t_52, x4_52, r_heads_52) =>
    vl (x3 + 1) fun x3_148 =>
    some (0, (x3_148, r_heads_52))
def m_X3_fillHeads (x1 : Int) (b_wordKinds : Nat → Int) (r_fixedValues : Nat → Int) (r_heads : Nat → Int) (r_rests : Nat → Int) (s_length : Int) (s_breaks : Nat → Int) (s_fixed : Nat → Int) (v_values : Nat → Int) : Option ((Nat → Int)) :=
  (m_X8_fillRange (x1 * 9) ((x1 + 1) * 9) 268435456 r_heads 324).bind fun r_heads_16 =>
  (m_X4_partsAt x1 s_length s_breaks).bind fun r_24 =>
  gd (inI r_24) <|
  if r_24 = 0 then
    some r_heads_16
  else
    (m_X4_reachFrom x1 s_length s_breaks).bind fun r_36 =>
    vl (x1 + 1) fun x3_43 =>
    (zloop (fun a => m_X3_fillHeads_44 x1 r_36 a.1 b_wordKinds r_fixedValues a.2 r_rests s_length s_breaks s_fixed v_values) FU (x3_43, r_heads_16)).bind fun (t_44, x3_44, r_heads_44) =>
    some r_heads_44
def m_X3_fillRests_14 (x1 : Int) (x2 : Int) (x3 : Int) (x4 : Int) (b_stepCosts : Nat → Int) (r_heads : Nat → Int) (r_rests : Nat → Int) : Option (Nat × (Int × Int)) :=
  gd (inI x4) <|
  if 9 ≤ x4 then
    some (1, (x3, x4))
  else
    gd (0 ≤ ((x1 * 9) + x4) ∧ ((x1 * 9) + x4) < 324) <|
    vl (r_heads (Int.toNat ((x1 * 9) + x4))) fun x5_33 =>
    gd (inI x5_33) <|
    if 268435456 ≤ x5_33 then
      vl (x4 + 1) fun x4_65 =>
      some (0, (x3, x4_65))
    else
      gd (0 ≤ ((x2 * 9) + x4) ∧ ((x2 * 9) + x4) < 81) <|
      gd (inI x3) <|
      gd (inI (x5_33 + (b_stepCosts (Int.toNat ((x2 * 9) + x4))))) <|
      vl (min x3 (x5_33 + (b_stepCosts (Int.toNat ((x2 * 9) + x4))))) fun x3_64 =>
      vl (x4 + 1) fun x4_65_v2 =>
      some (0, (x3_64, x4_65_v2))
def m_X3_fillRests_2 (x1 : Int) (x2 : Int) (b_stepCosts : Nat → Int) (r_heads : Nat → Int) (r_rests : Nat → Int) : Option (Nat × (Int × (Nat → Int))) :=
  gd (inI x2) <|
  if 9 ≤ x2 then
    some (1, (x2, r_rests))
  else
    (zloop (fun a => m_X3_fillRests_14 x1 x2 a.1 a.2 b_stepCosts r_heads r_rests) FU (268435456, 0)).bind fun (t_14, x3_14, x4_14) =>
    gd (0 ≤ ((x1 * 9) + x2) ∧ ((x1 * 9) + x2) < 333) <|
    vl (uz r_rests (Int.toNat ((x1 * 9) + x2)) x3_14) fun r_rests_82 =>
    vl (x2 + 1) fun x2_83 =>
    some (0, (x2_83, r_rests_82))
def m_X3_fillRests (x1 : Int) (b_stepCosts : Nat → Int) (r_heads : Nat → Int) (r_rests : Nat → Int) : Option ((Nat → Int)) :=
  (zloop (fun a => m_X3_fillRests_2 x1 a.1 b_stepCosts r_heads a.2) FU (0, r_rests)).bind fun (t_2, x2_2, r_rests_2) =>
  some r_rests_2
def m_X3_leastHead_5 (x1 : Int) (x2 : Int) (r_heads : Nat → Int) : Option (Nat × (Int × Int)) :=
  gd (inI x2) <|
  if 9 ≤ x2 then
    some (1, (x1, x2))
  else
    gd (0 ≤ x2 ∧ x2 < 324) <|
    gd (inI x1) <|
    gd (inI (r_heads (Int.toNat x2))) <|
    vl (min x1 (r_heads (Int.toNat x2))) fun x1_21 =>
    vl (x2 + 1) fun x2_22 =>
    some (0, (x1_21, x2_22))
def m_X3_leastHead (r_heads : Nat → Int) : Option (Int) :=
  (zloop (fun a => m_X3_leastHead_5 a.1 a.2 r_heads) FU (268435456, 0)).bind fun (t_5, x1_5, x2_5) =>
  some x1_5
def m_X3_costFrom_42 (x1 : Int) (x2 : Int) (x3 : Int) (t0 : Int) (b_wordKinds : Nat → Int) (b_stepCosts : Nat → Int) (r_rests : Nat → Int) (r_length : Int) (r_entries : Nat → Int) : Option (Int) :=
  gd (inI x1) <|
  gd (0 ≤ ((x2 * 9) + x3) ∧ ((x2 * 9) + x3) < 333) <|
  some ((t0 + (x1 / 1024)) + (r_rests (Int.toNat ((x2 * 9) + x3))))
def m_X3_costFrom (x1 : Int) (x2 : Int) (x3 : Int) (b_wordKinds : Nat → Int) (b_stepCosts : Nat → Int) (r_rests : Nat → Int) (r_length : Int) (r_entries : Nat → Int) : Option (Int) :=
  gd (inI r_length) <|
  if r_length = 0 then
    m_X3_costFrom_42 x1 x2 x3 0 b_wordKinds b_stepCosts r_rests r_length r_entries
  else
    gd (0 ≤ (r_length - 1) ∧ (r_length - 1) < 36) <|
    (m_X1_kindOf (r_entries (Int.toNat (r_length - 1))) b_wordKinds).bind fun r_33 =>
    gd (0 ≤ ((r_33 * 9) + x3) ∧ ((r_33 * 9) + x3) < 81) <|
    m_X3_costFrom_42 x1 x2 x3 (b_stepCosts (Int.toNat ((r_33 * 9) + x3))) b_wordKinds b_stepCosts r_rests r_length r_entries
def m_X3_followPart_86 (x1 : Int) (x2 : Int) (x3 : Int) (x4 : Int) (x5 : Int) (x6 : Int) (x7 : Int) (x8 : Int) (t0 : Int) (b_wordKinds : Nat → Int) (b_stepCosts : Nat → Int) (r_fixedValues : Nat → Int) (r_rests : Nat → Int) (r_length : Int) (r_begins : Nat → Int) (r_ends : Nat → Int) (r_entries : Nat → Int) (r_costs : Nat → Int) (s_length : Int) (s_breaks : Nat → Int) (s_fixed : Nat → Int) (v_values : Nat → Int) : Option (Nat × (Int × Int × Int)) :=
  gd (inI x8) <|
  if x8 = 2147483647 then
    vl (x7 + 1) fun x7_121 =>
    some (0, (x3, x4, x7_121))
  else
    gd (inI t0) <|
    if t0 = 0 then
      vl (x7 + 1) fun x7_121_v2 =>
      some (0, (x3, x4, x7_121_v2))
    else
      (m_X3_costFrom x8 x6 x7 b_wordKinds b_stepCosts r_rests r_length r_entries).bind fun r_107 =>
      gd (inI r_107) <|
      gd (inI x2) <|
      if r_107 = x2 then
        vl (x7 + 1) fun x7_121_v4 =>
        some (0, (x6, x8, x7_121_v4))
      else
        vl (x7 + 1) fun x7_121_v3 =>
        some (0, (x3, x4, x7_121_v3))
def m_X3_followPart_81 (x1 : Int) (x2 : Int) (x3 : Int) (x4 : Int) (x5 : Int) (x6 : Int) (x7 : Int) (x8 : Int) (b_wordKinds : Nat → Int) (b_stepCosts : Nat → Int) (r_fixedValues : Nat → Int) (r_rests : Nat → Int) (r_length : Int) (r_begins : Nat → Int) (r_ends : Nat → Int) (r_entries : Nat → Int) (r_costs : Nat → Int) (s_length : Int) (s_breaks : Nat → Int) (s_fixed : Nat → Int) (v_values : Nat → Int) : Option (Nat × (Int × Int × Int)) :=
  m_X3_followPart_86 x1 x2 x3 x4 x5 x6 x7 x8 1 b_wordKinds b_stepCosts r_fixedValues r_rests r_length r_begins r_ends r_entries r_costs s_length s_breaks s_fixed v_values
def m_X3_followPart_31 (x1 : Int) (x2 : Int) (x3 : Int) (x4 : Int) (x5 : Int) (x6 : Int) (x7 : Int) (b_wordKinds : Nat → Int) (b_stepCosts : Nat → Int) (r_fixedValues : Nat → Int) (r_rests : Nat → Int) (r_length : Int) (r_begins : Nat → Int) (r_ends : Nat → Int) (r_entries : Nat → Int) (r_costs : Nat → Int) (s_length : Int) (s_breaks : Nat → Int) (s_fixed : Nat → Int) (v_values : Nat → Int) : Option (Nat × (Int × Int × Int)) :=
  gd (inI x7) <|
  if 9 ≤ x7 then
    some (1, (x3, x4, x7))
  else
    (m_X4_partsAt x6 s_length s_breaks).bind fun r_44 =>
    gd (inI r_44) <|
    if r_44 = 0 then
      some (1, (x3, x4, x7))
    else
      (m_X3_valueOf x1 x6 x7 b_wordKinds r_fixedValues s_fixed v_values).bind fun r_56 =>
      gd (inI x3) <|
      if x3 = (-1) then
        m_X3_followPart_81 x1 x2 x3 x4 x5 x6 x7 r_56 b_wordKinds b_stepCosts r_fixedValues r_rests r_length r_begins r_ends r_entries r_costs s_length s_breaks s_fixed v_values
      else
        gd (inI (r_56 % 1024)) <|
        gd (inI (x4 % 1024)) <|
        if (x4 % 1024) ≤ (r_56 % 1024) then
          m_X3_followPart_86 x1 x2 x3 x4 x5 x6 x7 r_56 0 b_wordKinds b_stepCosts r_fixedValues r_rests r_length r_begins r_ends r_entries r_costs s_length s_breaks s_fixed v_values
        else
          m_X3_followPart_81 x1 x2 x3 x4 x5 x6 x7 r_56 b_wordKinds b_stepCosts r_fixedValues r_rests r_length r_begins r_ends r_entries r_costs s_length s_breaks s_fixed v_values
def m_X3_followPart_21 (x1 : Int) (x2 : Int) (x3 : Int) (x4 : Int) (x5 : Int) (x6 : Int) (b_wordKinds : Nat → Int) (b_stepCosts : Nat → Int) (r_fixedValues : Nat → Int) (r_rests : Nat → Int) (r_length : Int) (r_begins : Nat → Int) (r_ends : Nat → Int) (r_entries : Nat → Int) (r_costs : Nat → Int) (s_length : Int) (s_breaks : Nat → Int) (s_fixed : Nat → Int) (v_values : Nat → Int) : Option (Nat × (Int × Int × Int)) :=
  gd (inI x6) <|
  gd (inI x5) <|
  if x5 < x6 then
    some (1, (x3, x4, x6))
  else
    (zloop (fun a => m_X3_followPart_31 x1 x2 a.1 a.2.1 x5 x6 a.2.2 b_wordKinds b_stepCosts r_fixedValues r_rests r_length r_begins r_ends r_entries r_costs s_length s_breaks s_fixed v_values) FU (x3, x4, 0)).bind fun (t_31, x3_31, x4_31, x7_31) =>
    vl (x6 + 1) fun x6_127 =>
    some (0, (x3_31, x4_31, x6_127))
def m_X3_followPart (x1 : Int) (x2 : Int) (b_wordKinds : Nat → Int) (b_stepCosts : Nat → Int) (r_fixedValues : Nat → Int) (r_rests : Nat → Int) (r_length : Int) (r_begins : Nat → Int) (r_ends : Nat → Int) (r_entries : Nat → Int) (r_costs : Nat → Int) (s_length : Int) (s_breaks : Nat → Int) (s_fixed : Nat → Int) (v_values : Nat → Int) : Option (Int × Int × (Nat → Int) × (Nat → Int) × (Nat → Int) × (Nat → Int)) :=
  (m_X4_reachFrom x1 s_length s_breaks).bind fun r_11 =>
  vl (x1 + 1) fun x6_19 =>
  (zloop (fun a => m_X3_followPart_21 x1 x2 a.1 a.2.1 r_11 a.2.2 b_wordKinds b_stepCosts r_fixedValues r_rests r_length r_begins r_ends r_entries r_costs s_length s_breaks s_fixed v_values) FU ((-1), 2147483647, x6_19)).bind fun (t_21, x3_21, x4_21, x6_21) =>
  gd (inI x3_21) <|
  if x3_21 = (-1) then
    some (x3_21, r_length, r_begins, r_ends, r_entries, r_costs)
  else
    gd (0 ≤ r_length ∧ r_length < 36) <|
    vl (uz r_begins (Int.toNat r_length) x1) fun r_begins_147 =>
    gd (0 ≤ r_length ∧ r_length < 36) <|
    vl (uz r_ends (Int.toNat r_length) x3_21) fun r_ends_157 =>
    gd (0 ≤ r_length ∧ r_length < 36) <|
    vl (uz r_entries (Int.toNat r_length) (x4_21 % 1024)) fun r_entries_172 =>
    gd (inI x4_21) <|
    gd (0 ≤ r_length ∧ r_length < 36) <|
    vl (uz r_costs (Int.toNat r_length) (x4_21 / 1024)) fun r_costs_186 =>
    vl (r_length + 1) fun r_length_194 =>
    some (x3_21, r_length_194, r_begins_147, r_ends_157, r_entries_172, r_costs_186)
def m_X3_follow_7 (x1 : Int) (x2 : Int) (b_wordKinds : Nat → Int) (b_stepCosts : Nat → Int) (r_fixedValues : Nat → Int) (r_rests : Nat → Int) (r_total : Int) (r_length : Int) (r_begins : Nat → Int) (r_ends : Nat → Int) (r_entries : Nat → Int) (r_costs : Nat → Int) (s_length : Int) (s_breaks : Nat → Int) (s_fixed : Nat → Int) (v_values : Nat → Int) : Option (Nat × (Int × Int × Int × (Nat → Int) × (Nat → Int) × (Nat → Int) × (Nat → Int))) :=
  gd (inI x1) <|
  gd (inI s_length) <|
  if s_length ≤ x1 then
    some (1, (x1, x2, r_length, r_begins, r_ends, r_entries, r_costs))
  else
    gd (inI r_length) <|
    if 36 ≤ r_length then
      some (1, (x1, x2, r_length, r_begins, r_ends, r_entries, r_costs))
    else
      (m_X3_followPart x1 x2 b_wordKinds b_stepCosts r_fixedValues r_rests r_length r_begins r_ends r_entries r_costs s_length s_breaks s_fixed v_values).bind fun (r_30, r_length_30, r_begins_30, r_ends_30, r_entries_30, r_costs_30) =>
      gd (inI r_30) <|
      if r_30 = (-1) then
        some (2, (x1, x2, r_length_30, r_begins_30, r_ends_30, r_entries_30, r_costs_30))
      else
        gd (0 ≤ (r_length_30 - 1) ∧ (r_length_30 - 1) < 36) <|
        (m_X1_kindOf (r_entries_30 (Int.toNat (r_length_30 - 1))) b_wordKinds).bind fun r_65 =>
        gd (0 ≤ ((r_30 * 9) + r_65) ∧ ((r_30 * 9) + r_65) < 333) <|
        vl (r_rests (Int.toNat ((r_30 * 9) + r_65))) fun x2_70 =>
        some (0, (r_30, x2_70, r_length_30, r_begins_30, r_ends_30, r_entries_30, r_costs_30))
def m_X3_follow (b_wordKinds : Nat → Int) (b_stepCosts : Nat → Int) (r_fixedValues : Nat → Int) (r_rests : Nat → Int) (r_total : Int) (r_length : Int) (r_begins : Nat → Int) (r_ends : Nat → Int) (r_entries : Nat → Int) (r_costs : Nat → Int) (s_length : Int) (s_breaks : Nat → Int) (s_fixed : Nat → Int) (v_values : Nat → Int) : Option (Int × (Nat → Int) × (Nat → Int) × (Nat → Int) × (Nat → Int)) :=
  (zloop (fun a => m_X3_follow_7 a.1 a.2.1 b_wordKinds b_stepCosts r_fixedValues r_rests r_total a.2.2.1 a.2.2.2.1 a.2.2.2.2.1 a.2.2.2.2.2.1 a.2.2.2.2.2.2 s_length s_breaks s_fixed v_values) FU (0, r_total, r_length, r_begins, r_ends, r_entries, r_costs)).bind fun (t_7, x1_7, x2_7, r_length_7, r_begins_7, r_ends_7, r_entries_7, r_costs_7) =>
  if t_7 = 1 then
    some (r_length_7, r_begins_7, r_ends_7, r_entries_7, r_costs_7)
  else
    some (r_length_7, r_begins_7, r_ends_7, r_entries_7, r_costs_7)
def m_X3_renew_85 (x1 : Int) (b_spellingsOf : Nat → Int) (b_spellingRows : Nat → Int) (b_spellingLengths : Nat → Int) (b_spellingPrices : Nat → Int) (b_words : Int) (b_wordSounds : Nat → Int) (b_wordKinds : Nat → Int) (b_wordClasses : Nat → Int) (b_counts : Nat → Int) (b_endings : Int) (b_endingSounds : Nat → Int) (b_endingClasses : Nat → Int) (b_endingPrices : Nat → Int) (b_prices : Nat → Int) (b_stepCosts : Nat → Int) (r_fixedValues : Nat → Int) (r_heads : Nat → Int) (r_rests : Nat → Int) (r_known : Int) (r_total : Int) (r_length : Int) (r_begins : Nat → Int) (r_ends : Nat → Int) (r_entries : Nat → Int) (r_costs : Nat → Int) (s_length : Int) (s_letters : Nat → Int) (s_breaks : Nat → Int) (s_fixed : Nat → Int) (v_values : Nat → Int) (v_lettersRead : Nat → Int) (v_columns : Int) (p_now : Nat → Int) (p_nowA : Nat) (p_next : Nat → Int) (p_nextA : Nat) (p_low : Int) (p_high : Int) (p_seeds : Nat → Int) (p_seedLows : Nat → Int) : Option (Nat × (Int × (Nat → Int) × (Nat → Int))) :=
  gd (inI x1) <|
  if x1 < 0 then
    some (1, (x1, r_heads, r_rests))
  else
    (m_X3_fillHeads x1 b_wordKinds r_fixedValues r_heads r_rests s_length s_breaks s_fixed v_values).bind fun r_heads_91 =>
    (m_X3_fillRests x1 b_stepCosts r_heads_91 r_rests).bind fun r_rests_96 =>
    vl (x1 + (-1)) fun x1_99 =>
    some (0, (x1_99, r_heads_91, r_rests_96))
def m_X3_renew (b_spellingsOf : Nat → Int) (b_spellingRows : Nat → Int) (b_spellingLengths : Nat → Int) (b_spellingPrices : Nat → Int) (b_words : Int) (b_wordSounds : Nat → Int) (b_wordKinds : Nat → Int) (b_wordClasses : Nat → Int) (b_counts : Nat → Int) (b_endings : Int) (b_endingSounds : Nat → Int) (b_endingClasses : Nat → Int) (b_endingPrices : Nat → Int) (b_prices : Nat → Int) (b_stepCosts : Nat → Int) (r_fixedValues : Nat → Int) (r_heads : Nat → Int) (r_rests : Nat → Int) (r_known : Int) (r_total : Int) (r_length : Int) (r_begins : Nat → Int) (r_ends : Nat → Int) (r_entries : Nat → Int) (r_costs : Nat → Int) (s_length : Int) (s_letters : Nat → Int) (s_breaks : Nat → Int) (s_fixed : Nat → Int) (v_values : Nat → Int) (v_lettersRead : Nat → Int) (v_columns : Int) (p_now : Nat → Int) (p_nowA : Nat) (p_next : Nat → Int) (p_nextA : Nat) (p_low : Int) (p_high : Int) (p_seeds : Nat → Int) (p_seedLows : Nat → Int) : Option ((Nat → Int) × (Nat → Int) × (Nat → Int) × Int × Int × Int × (Nat → Int) × (Nat → Int) × (Nat → Int) × (Nat → Int) × (Nat → Int) × (Nat → Int) × Int × (Nat → Int) × Nat × (Nat → Int) × Nat × Int × Int × (Nat → Int) × (Nat → Int)) :=
  gd (inI r_known) <|
  if r_known = 0 then
    gd (inI s_length) <|
    if s_length = 0 then
      some (r_fixedValues, r_heads, r_rests, 1, 0, 0, r_begins, r_ends, r_entries, r_costs, v_values, v_lettersRead, v_columns, p_now, p_nowA, p_next, p_nextA, p_low, p_high, p_seeds, p_seedLows)
    else
      (m_X5_renew b_spellingsOf b_spellingRows b_spellingLengths b_spellingPrices b_words b_wordSounds b_wordKinds b_wordClasses b_counts b_endings b_endingSounds b_endingClasses b_endingPrices b_prices s_length s_letters v_values v_lettersRead v_columns p_now p_nowA p_next p_nextA p_low p_high p_seeds p_seedLows).bind fun (v_values_38, v_lettersRead_38, v_columns_38, p_now_38, p_nowA_38, p_next_38, p_nextA_38, p_low_38, p_high_38, p_seeds_38, p_seedLows_38) =>
      (m_X3_valueFixedParts b_spellingsOf b_spellingRows b_spellingLengths b_spellingPrices b_wordSounds b_counts b_endingSounds b_endingPrices b_prices r_fixedValues s_length s_letters s_fixed p_now_38 p_nowA_38 p_next_38 p_nextA_38 p_low_38 p_high_38).bind fun (r_fixedValues_42, p_now_42, p_nowA_42, p_next_42, p_nextA_42, p_low_42, p_high_42) =>
      (m_X8_fillRange (s_length * 9) ((s_length + 1) * 9) 0 r_rests 333).bind fun r_rests_72 =>
      vl (s_length - 1) fun x1_84 =>
      (zloop (fun a => m_X3_renew_85 a.1 b_spellingsOf b_spellingRows b_spellingLengths b_spellingPrices b_words b_wordSounds b_wordKinds b_wordClasses b_counts b_endings b_endingSounds b_endingClasses b_endingPrices b_prices b_stepCosts r_fixedValues_42 a.2.1 a.2.2 1 0 0 r_begins r_ends r_entries r_costs s_length s_letters s_breaks s_fixed v_values_38 v_lettersRead_38 v_columns_38 p_now_42 p_nowA_42 p_next_42 p_nextA_42 p_low_42 p_high_42 p_seeds_38 p_seedLows_38) FU (x1_84, r_heads, r_rests_72)).bind fun (t_85, x1_85, r_heads_85, r_rests_85) =>
      (m_X3_leastHead r_heads_85).bind fun r_107 =>
      gd (inI r_107) <|
      if 268435456 ≤ r_107 then
        some (r_fixedValues_42, r_heads_85, r_rests_85, 1, r_107, 0, r_begins, r_ends, r_entries, r_costs, v_values_38, v_lettersRead_38, v_columns_38, p_now_42, p_nowA_42, p_next_42, p_nextA_42, p_low_42, p_high_42, p_seeds_38, p_seedLows_38)
      else
        (m_X3_follow b_wordKinds b_stepCosts r_fixedValues_42 r_rests_85 r_107 0 r_begins r_ends r_entries r_costs s_length s_breaks s_fixed v_values_38).bind fun (r_length_123, r_begins_123, r_ends_123, r_entries_123, r_costs_123) =>
        some (r_fixedValues_42, r_heads_85, r_rests_85, 1, r_107, r_length_123, r_begins_123, r_ends_123, r_entries_123, r_costs_123, v_values_38, v_lettersRead_38, v_columns_38, p_now_42, p_nowA_42, p_next_42, p_nextA_42, p_low_42, p_high_42, p_seeds_38, p_seedLows_38)
  else
    some (r_fixedValues, r_heads, r_rests, r_known, r_total, r_length, r_begins, r_ends, r_entries, r_costs, v_values, v_lettersRead, v_columns, p_now, p_nowA, p_next, p_nextA, p_low, p_high, p_seeds, p_seedLows)
def m_X2_forget (o_leadsKnown : Int) (o_listedPart : Int) : Option (Int × Int) :=
  some (0, (-1))
def m_X2_fillLeads_22 (x1 : Int) (x2 : Int) (x3 : Int) (x4 : Int) (b_stepCosts : Nat → Int) (o_tails : Nat → Int) (o_leads : Nat → Int) : Option (Nat × (Int × Int)) :=
  gd (inI x4) <|
  if 9 ≤ x4 then
    some (1, (x3, x4))
  else
    gd (0 ≤ ((x1 * 9) + x4) ∧ ((x1 * 9) + x4) < 333) <|
    vl (o_tails (Int.toNat ((x1 * 9) + x4))) fun x5_41 =>
    gd (inI x5_41) <|
    if 268435456 ≤ x5_41 then
      vl (x4 + 1) fun x4_73 =>
      some (0, (x3, x4_73))
    else
      gd (0 ≤ ((x4 * 9) + x2) ∧ ((x4 * 9) + x2) < 81) <|
      gd (inI x3) <|
      gd (inI (x5_41 + (b_stepCosts (Int.toNat ((x4 * 9) + x2))))) <|
      vl (min x3 (x5_41 + (b_stepCosts (Int.toNat ((x4 * 9) + x2))))) fun x3_72 =>
      vl (x4 + 1) fun x4_73_v2 =>
      some (0, (x3_72, x4_73_v2))
def m_X2_fillLeads_18 (x1 : Int) (x2 : Int) (t0 : Int) (b_stepCosts : Nat → Int) (o_tails : Nat → Int) (o_leads : Nat → Int) : Option (Nat × (Int × (Nat → Int))) :=
  (zloop (fun a => m_X2_fillLeads_22 x1 x2 a.1 a.2 b_stepCosts o_tails o_leads) FU (t0, 0)).bind fun (t_22, x3_22, x4_22) =>
  gd (0 ≤ ((x1 * 9) + x2) ∧ ((x1 * 9) + x2) < 324) <|
  vl (uz o_leads (Int.toNat ((x1 * 9) + x2)) x3_22) fun o_leads_90 =>
  vl (x2 + 1) fun x2_91 =>
  some (0, (x2_91, o_leads_90))
def m_X2_fillLeads_2 (x1 : Int) (x2 : Int) (b_stepCosts : Nat → Int) (o_tails : Nat → Int) (o_leads : Nat → Int) : Option (Nat × (Int × (Nat → Int))) :=
  gd (inI x2) <|
  if 9 ≤ x2 then
    some (1, (x2, o_leads))
  else
    gd (inI x1) <|
    if x1 = 0 then
      m_X2_fillLeads_18 x1 x2 0 b_stepCosts o_tails o_leads
    else
      m_X2_fillLeads_18 x1 x2 268435456 b_stepCosts o_tails o_leads
def m_X2_fillLeads (x1 : Int) (b_stepCosts : Nat → Int) (o_tails : Nat → Int) (o_leads : Nat → Int) : Option ((Nat → Int)) :=
  (zloop (fun a => m_X2_fillLeads_2 x1 a.1 b_stepCosts o_tails a.2) FU (0, o_leads)).bind fun (t_2, x2_2, o_leads_2) =>
  some o_leads_2
def m_X2_goOn_21 (x1 : Int) (x2 : Int) (x3 : Int) (x4 : Int) (b_wordKinds : Nat → Int) (o_tails : Nat → Int) (o_leads : Nat → Int) (r_fixedValues : Nat → Int) (s_length : Int) (s_breaks : Nat → Int) (s_fixed : Nat → Int) (v_values : Nat → Int) : Option (Nat × (Int × (Nat → Int))) :=
  gd (inI x4) <|
  if 9 ≤ x4 then
    some (1, (x4, o_tails))
  else
    (m_X4_partsAt x3 s_length s_breaks).bind fun r_33 =>
    gd (inI r_33) <|
    if r_33 = 0 then
      some (1, (x4, o_tails))
    else
      (m_X3_valueOf x1 x3 x4 b_wordKinds r_fixedValues s_fixed v_values).bind fun r_47 =>
      gd (0 ≤ ((x1 * 9) + x4) ∧ ((x1 * 9) + x4) < 324) <|
      vl (o_leads (Int.toNat ((x1 * 9) + x4))) fun x6_64 =>
      gd (inI r_47) <|
      if r_47 = 2147483647 then
        vl (x4 + 1) fun x4_114 =>
        some (0, (x4_114, o_tails))
      else
        gd (inI x6_64) <|
        if 268435456 ≤ x6_64 then
          vl (x4 + 1) fun x4_114_v2 =>
          some (0, (x4_114_v2, o_tails))
        else
          vl ((x3 * 9) + x4) fun x7_87 =>
          gd (0 ≤ x7_87 ∧ x7_87 < 333) <|
          gd (inI (o_tails (Int.toNat x7_87))) <|
          gd (inI (x6_64 + (r_47 / 1024))) <|
          gd (0 ≤ x7_87 ∧ x7_87 < 333) <|
          vl (uz o_tails (Int.toNat x7_87) (min (o_tails (Int.toNat x7_87)) (x6_64 + (r_47 / 1024)))) fun o_tails_113 =>
          vl (x4 + 1) fun x4_114_v3 =>
          some (0, (x4_114_v3, o_tails_113))
def m_X2_goOn_13 (x1 : Int) (x2 : Int) (x3 : Int) (b_wordKinds : Nat → Int) (o_tails : Nat → Int) (o_leads : Nat → Int) (r_fixedValues : Nat → Int) (s_length : Int) (s_breaks : Nat → Int) (s_fixed : Nat → Int) (v_values : Nat → Int) : Option (Nat × (Int × (Nat → Int))) :=
  gd (inI x3) <|
  gd (inI x2) <|
  if x2 < x3 then
    some (1, (x3, o_tails))
  else
    (zloop (fun a => m_X2_goOn_21 x1 x2 x3 a.1 b_wordKinds a.2 o_leads r_fixedValues s_length s_breaks s_fixed v_values) FU (0, o_tails)).bind fun (t_21, x4_21, o_tails_21) =>
    vl (x3 + 1) fun x3_120 =>
    some (0, (x3_120, o_tails_21))
def m_X2_goOn (x1 : Int) (b_wordKinds : Nat → Int) (o_tails : Nat → Int) (o_leads : Nat → Int) (r_fixedValues : Nat → Int) (s_length : Int) (s_breaks : Nat → Int) (s_fixed : Nat → Int) (v_values : Nat → Int) : Option ((Nat → Int)) :=
  (m_X4_reachFrom x1 s_length s_breaks).bind fun r_5 =>
  vl (x1 + 1) fun x3_12 =>
  (zloop (fun a => m_X2_goOn_13 x1 r_5 a.1 b_wordKinds a.2 o_leads r_fixedValues s_length s_breaks s_fixed v_values) FU (x3_12, o_tails)).bind fun (t_13, x3_13, o_tails_13) =>
  some o_tails_13
def m_X2_fillAllLeads_24 (x1 : Int) (b_wordKinds : Nat → Int) (b_stepCosts : Nat → Int) (o_tails : Nat → Int) (o_leads : Nat → Int) (o_leadsKnown : Int) (r_fixedValues : Nat → Int) (s_length : Int) (s_breaks : Nat → Int) (s_fixed : Nat → Int) (v_values : Nat → Int) : Option (Nat × (Int × (Nat → Int) × (Nat → Int))) :=
  gd (inI x1) <|
  gd (inI s_length) <|
  if s_length ≤ x1 then
    some (1, (x1, o_tails, o_leads))
  else
    (m_X2_fillLeads x1 b_stepCosts o_tails o_leads).bind fun o_leads_37 =>
    (m_X4_partsAt x1 s_length s_breaks).bind fun r_45 =>
    gd (inI r_45) <|
    if r_45 = 0 then
      vl (x1 + 1) fun x1_56 =>
      some (0, (x1_56, o_tails, o_leads_37))
    else
      (m_X2_goOn x1 b_wordKinds o_tails o_leads_37 r_fixedValues s_length s_breaks s_fixed v_values).bind fun o_tails_53 =>
      vl (x1 + 1) fun x1_56_v2 =>
      some (0, (x1_56_v2, o_tails_53, o_leads_37))
def m_X2_fillAllLeads (b_wordKinds : Nat → Int) (b_stepCosts : Nat → Int) (o_tails : Nat → Int) (o_leads : Nat → Int) (o_leadsKnown : Int) (r_fixedValues : Nat → Int) (s_length : Int) (s_breaks : Nat → Int) (s_fixed : Nat → Int) (v_values : Nat → Int) : Option ((Nat → Int) × (Nat → Int) × Int) :=
  gd (inI o_leadsKnown) <|
  if o_leadsKnown = 0 then
    (m_J7_fill_53178 268435456 o_tails 333).bind fun o_tails_19 =>
    (zloop (fun a => m_X2_fillAllLeads_24 a.1 b_wordKinds b_stepCosts a.2.1 a.2.2 1 r_fixedValues s_length s_breaks s_fixed v_values) FU (0, o_tails_19, o_leads)).bind fun (t_24, x1_24, o_tails_24, o_leads_24) =>
    some (o_tails_24, o_leads_24, 1)
  else
    some (o_tails, o_leads, o_leadsKnown)
def m_X2_offer_78 (x1 : Int) (x8 : Int) (x9 : Int) (b_wordKinds : Nat → Int) (o_leads : Nat → Int) (o_length : Int) (o_entries : Nat → Int) (o_costs : Nat → Int) (r_rests : Nat → Int) : Option (Nat × (Int)) :=
  gd (inI x9) <|
  if x9 ≤ 0 then
    some (1, x9)
  else
    gd (0 ≤ (x9 - 1) ∧ (x9 - 1) < 12) <|
    gd (inI (o_costs (Int.toNat (x9 - 1)))) <|
    gd (inI x8) <|
    if (o_costs (Int.toNat (x9 - 1))) ≤ x8 then
      some (1, x9)
    else
      vl (x9 + (-1)) fun x9_97 =>
      some (0, x9_97)
def m_X2_offer_134 (x1 : Int) (x8 : Int) (x9 : Int) (x10 : Int) (b_wordKinds : Nat → Int) (o_leads : Nat → Int) (o_length : Int) (o_entries : Nat → Int) (o_costs : Nat → Int) (r_rests : Nat → Int) : Option (Nat × (Int × (Nat → Int) × (Nat → Int))) :=
  gd (inI x10) <|
  gd (inI x9) <|
  if x10 ≤ x9 then
    some (1, (x10, o_entries, o_costs))
  else
    gd (0 ≤ (x10 - 1) ∧ (x10 - 1) < 12) <|
    gd (0 ≤ x10 ∧ x10 < 12) <|
    vl (uz o_entries (Int.toNat x10) (o_entries (Int.toNat (x10 - 1)))) fun o_entries_156 =>
    gd (0 ≤ (x10 - 1) ∧ (x10 - 1) < 12) <|
    gd (0 ≤ x10 ∧ x10 < 12) <|
    vl (uz o_costs (Int.toNat x10) (o_costs (Int.toNat (x10 - 1)))) fun o_costs_172 =>
    vl (x10 + (-1)) fun x10_173 =>
    some (0, (x10_173, o_entries_156, o_costs_172))
def m_X2_offer_103 (x1 : Int) (x8 : Int) (x9 : Int) (b_wordKinds : Nat → Int) (o_leads : Nat → Int) (o_length : Int) (o_entries : Nat → Int) (o_costs : Nat → Int) (r_rests : Nat → Int) : Option (Int × (Nat → Int) × (Nat → Int)) :=
  gd (inI x9) <|
  if x9 < 12 then
    gd (inI (o_length + 1)) <|
    vl (min (o_length + 1) 12) fun o_length_123 =>
    vl (o_length_123 - 1) fun x10_132 =>
    (zloop (fun a => m_X2_offer_134 x1 x8 x9 a.1 b_wordKinds o_leads o_length_123 a.2.1 a.2.2 r_rests) FU (x10_132, o_entries, o_costs)).bind fun (t_134, x10_134, o_entries_134, o_costs_134) =>
    gd (0 ≤ x9 ∧ x9 < 12) <|
    vl (uz o_entries_134 (Int.toNat x9) x1) fun o_entries_186 =>
    gd (0 ≤ x9 ∧ x9 < 12) <|
    vl (uz o_costs_134 (Int.toNat x9) x8) fun o_costs_195 =>
    some (o_length_123, o_entries_186, o_costs_195)
  else
    some (o_length, o_entries, o_costs)
def m_X2_offer (x1 : Int) (x2 : Int) (x3 : Int) (x4 : Int) (b_wordKinds : Nat → Int) (o_leads : Nat → Int) (o_length : Int) (o_entries : Nat → Int) (o_costs : Nat → Int) (r_rests : Nat → Int) : Option (Int × (Nat → Int) × (Nat → Int)) :=
  (m_X1_kindOf x1 b_wordKinds).bind fun r_5 =>
  gd (0 ≤ ((x3 * 9) + r_5) ∧ ((x3 * 9) + r_5) < 324) <|
  vl (o_leads (Int.toNat ((x3 * 9) + r_5))) fun x6_22 =>
  gd (0 ≤ ((x4 * 9) + r_5) ∧ ((x4 * 9) + r_5) < 333) <|
  vl (r_rests (Int.toNat ((x4 * 9) + r_5))) fun x7_40 =>
  gd (inI x2) <|
  if x2 = 268435456 then
    some (o_length, o_entries, o_costs)
  else
    gd (inI x6_22) <|
    if 268435456 ≤ x6_22 then
      some (o_length, o_entries, o_costs)
    else
      gd (inI x7_40) <|
      if x7_40 < 268435456 then
        vl ((x6_22 + x2) + x7_40) fun x8_70 =>
        (zloop (fun a => m_X2_offer_78 x1 x8_70 a b_wordKinds o_leads o_length o_entries o_costs r_rests) FU o_length).bind fun (t_78, x9_78) =>
        m_X2_offer_103 x1 x8_70 x9_78 b_wordKinds o_leads o_length o_entries o_costs r_rests
      else
        some (o_length, o_entries, o_costs)
