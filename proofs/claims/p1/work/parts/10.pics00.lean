def m_X0_forget (a_kept : Int) : Option (Int) :=
  some 0
def m_X1_addSpelling_25 (x1 : Int) (x2 : Int) (x3 : Int) (x4 : Int) (x5 : Int) (x6 : Int) (x7 : Int) (b_spellingsOf : Nat → Int) (b_spellingRows : Nat → Int) (b_spellingLengths : Nat → Int) (b_spellingPrices : Nat → Int) : Option (Nat × (Int)) :=
  gd (inI x7) <|
  gd (inI (x5 + x6)) <|
  if (x5 + x6) ≤ x7 then
    some (1, x7)
  else
    gd (0 ≤ x7 ∧ x7 < 150) <|
    gd (inI (b_spellingRows (Int.toNat x7))) <|
    gd (inI x2) <|
    if (b_spellingRows (Int.toNat x7)) = x2 then
      some (2, x7)
    else
      vl (x7 + 1) fun x7_48 =>
      some (0, x7_48)
def m_X1_addSpelling (x1 : Int) (x2 : Int) (x3 : Int) (x4 : Int) (b_spellingsOf : Nat → Int) (b_spellingRows : Nat → Int) (b_spellingLengths : Nat → Int) (b_spellingPrices : Nat → Int) : Option (Int × (Nat → Int) × (Nat → Int) × (Nat → Int) × (Nat → Int)) :=
  vl (x1 * 3) fun x5_3 =>
  gd (0 ≤ x1 ∧ x1 < 50) <|
  vl (b_spellingsOf (Int.toNat x1)) fun x6_11 =>
  gd (inI x6_11) <|
  if x6_11 < 3 then
    (zloop (fun a => m_X1_addSpelling_25 x1 x2 x3 x4 x5_3 x6_11 a b_spellingsOf b_spellingRows b_spellingLengths b_spellingPrices) FU x5_3).bind fun (t_25, x7_25) =>
    if t_25 = 1 then
      gd (0 ≤ (x5_3 + x6_11) ∧ (x5_3 + x6_11) < 150) <|
      vl (uz b_spellingRows (Int.toNat (x5_3 + x6_11)) x2) fun b_spellingRows_64 =>
      gd (0 ≤ (x5_3 + x6_11) ∧ (x5_3 + x6_11) < 150) <|
      vl (uz b_spellingLengths (Int.toNat (x5_3 + x6_11)) x3) fun b_spellingLengths_75 =>
      gd (0 ≤ (x5_3 + x6_11) ∧ (x5_3 + x6_11) < 150) <|
      vl (uz b_spellingPrices (Int.toNat (x5_3 + x6_11)) x4) fun b_spellingPrices_87 =>
      gd (0 ≤ x1 ∧ x1 < 50) <|
      gd (0 ≤ x1 ∧ x1 < 50) <|
      vl (uz b_spellingsOf (Int.toNat x1) ((b_spellingsOf (Int.toNat x1)) + 1)) fun b_spellingsOf_97 =>
      some (1, b_spellingsOf_97, b_spellingRows_64, b_spellingLengths_75, b_spellingPrices_87)
    else
      some (0, b_spellingsOf, b_spellingRows, b_spellingLengths, b_spellingPrices)
  else
    some (0, b_spellingsOf, b_spellingRows, b_spellingLengths, b_spellingPrices)
def m_X1_addWord (x1 : Int) (x3 : Int) (x5 : Int) (x6 : Int) (b_words : Int) (b_wordSounds : Nat → Int) (b_wordSigns : Nat → Int) (b_wordKinds : Nat → Int) (b_wordClasses : Nat → Int) : Option (Int × Int × (Nat → Int) × (Nat → Int) × (Nat → Int) × (Nat → Int)) :=
  gd (0 ≤ b_words ∧ b_words < 60) <|
  vl (uz b_wordSounds (Int.toNat b_words) x1) fun b_wordSounds_9 =>
  gd (0 ≤ b_words ∧ b_words < 60) <|
  vl (uz b_wordSigns (Int.toNat b_words) x3) fun b_wordSigns_19 =>
  gd (0 ≤ b_words ∧ b_words < 60) <|
  vl (uz b_wordKinds (Int.toNat b_words) x5) fun b_wordKinds_30 =>
  gd (0 ≤ b_words ∧ b_words < 60) <|
  vl (uz b_wordClasses (Int.toNat b_words) x6) fun b_wordClasses_41 =>
  vl (b_words + 1) fun b_words_49 =>
  some ((b_words_49 - 1), b_words_49, b_wordSounds_9, b_wordSigns_19, b_wordKinds_30, b_wordClasses_41)
def m_X1_addEnding (x1 : Int) (x3 : Int) (x4 : Int) (x5 : Int) (b_endings : Int) (b_endingSounds : Nat → Int) (b_endingSigns : Nat → Int) (b_endingClasses : Nat → Int) (b_endingPrices : Nat → Int) : Option (Int × Int × (Nat → Int) × (Nat → Int) × (Nat → Int) × (Nat → Int)) :=
  gd (0 ≤ b_endings ∧ b_endings < 8) <|
  vl (uz b_endingSounds (Int.toNat b_endings) x1) fun b_endingSounds_9 =>
  gd (0 ≤ b_endings ∧ b_endings < 8) <|
  vl (uz b_endingSigns (Int.toNat b_endings) x3) fun b_endingSigns_19 =>
  gd (0 ≤ b_endings ∧ b_endings < 8) <|
  vl (uz b_endingClasses (Int.toNat b_endings) x4) fun b_endingClasses_30 =>
  gd (0 ≤ b_endings ∧ b_endings < 8) <|
  vl (uz b_endingPrices (Int.toNat b_endings) x5) fun b_endingPrices_41 =>
  vl (b_endings + 1) fun b_endings_49 =>
  some ((b_endings_49 - 1), b_endings_49, b_endingSounds_9, b_endingSigns_19, b_endingClasses_30, b_endingPrices_41)
def m_X8_digits_2 (x0 : Int) (x1 : Int) : Option (Nat × (Int)) :=
  gd (inI x1) <|
  if 31 ≤ x1 then
    some (1, x1)
  else
    gd (inI x0) <|
    gd (0 ≤ x1 ∧ x1 < 32) <|
    gd (inI (x0 / 2 ^ Int.toNat x1)) <|
    if (x0 / 2 ^ Int.toNat x1) ≤ 0 then
      some (1, x1)
    else
      vl (x1 + 1) fun x1_14 =>
      some (0, x1_14)
def m_X8_digits (x0 : Int) : Option (Int) :=
  (zloop (fun a => m_X8_digits_2 x0 a) FU 0).bind fun (t_2, x1_2) =>
  some x1_2
def m_X1_priceStep (x1 : Int) (x2 : Int) (b_stepPrices : Nat → Int) (b_pairsOf : Nat → Int) (b_stepCosts : Nat → Int) : Option ((Nat → Int) × (Nat → Int)) :=
  gd (0 ≤ x1 ∧ x1 < 81) <|
  vl (uz b_stepPrices (Int.toNat x1) x2) fun b_stepPrices_6 =>
  gd (0 ≤ x1 ∧ x1 < 81) <|
  (m_X8_digits (b_pairsOf (Int.toNat x1))).bind fun r_20 =>
  gd (0 ≤ x1 ∧ x1 < 81) <|
  vl (uz b_stepCosts (Int.toNat x1) (x2 - (2 * r_20))) fun b_stepCosts_25 =>
  some (b_stepPrices_6, b_stepCosts_25)
def m_X8_wordOf (x0 : Int) : Option (Int) :=
  gd (inI x0) <|
  if x0 = 540 then
    some (-1)
  else
    some (Int.tdiv x0 9)
def m_X1_kindOf (x1 : Int) (b_wordKinds : Nat → Int) : Option (Int) :=
  gd (inI x1) <|
  if x1 = 540 then
    some 8
  else
    (m_X8_wordOf x1).bind fun r_17 =>
    gd (0 ≤ r_17 ∧ r_17 < 60) <|
    some (b_wordKinds (Int.toNat r_17))
def m_X1_learn_38 (x2 : Int) (x3 : Int) (x4 : Int) (x5 : Int) (b_wordKinds : Nat → Int) (b_counts : Nat → Int) (b_stepPrices : Nat → Int) (b_pairsOf : Nat → Int) (b_stepCosts : Nat → Int) (g0 : Nat → Int) (gn0 : Nat) : Option (Nat × (Int × (Nat → Int) × (Nat → Int) × (Nat → Int) × (Nat → Int))) :=
  gd (inI x5) <|
  gd (inI x2) <|
  if x5 ≤ x2 then
    vl (x5 + 1) fun x5_93 =>
    some (0, (x5_93, b_counts, b_stepPrices, b_pairsOf, b_stepCosts))
  else
    gd (0 ≤ (x5 - 1) ∧ (x5 - 1) < (gn0 : Int)) <|
    (m_X1_kindOf (g0 (Int.toNat (x5 - 1))) b_wordKinds).bind fun r_51 =>
    gd (0 ≤ x5 ∧ x5 < (gn0 : Int)) <|
    (m_X1_kindOf (g0 (Int.toNat x5)) b_wordKinds).bind fun r_62 =>
    vl ((r_51 * 9) + r_62) fun x7_66 =>
    gd (0 ≤ x7_66 ∧ x7_66 < 81) <|
    gd (0 ≤ x7_66 ∧ x7_66 < 81) <|
    vl (uz b_pairsOf (Int.toNat x7_66) ((b_pairsOf (Int.toNat x7_66)) + x4)) fun b_pairsOf_79 =>
    gd (0 ≤ x7_66 ∧ x7_66 < 81) <|
    (m_X1_priceStep x7_66 (b_stepPrices (Int.toNat x7_66)) b_stepPrices b_pairsOf_79 b_stepCosts).bind fun (b_stepPrices_90, b_stepCosts_90) =>
    vl (x5 + 1) fun x5_93_v2 =>
    some (0, (x5_93_v2, b_counts, b_stepPrices_90, b_pairsOf_79, b_stepCosts_90))
def m_X1_learn_3 (x2 : Int) (x3 : Int) (x4 : Int) (x5 : Int) (b_wordKinds : Nat → Int) (b_counts : Nat → Int) (b_stepPrices : Nat → Int) (b_pairsOf : Nat → Int) (b_stepCosts : Nat → Int) (g0 : Nat → Int) (gn0 : Nat) : Option (Nat × (Int × (Nat → Int) × (Nat → Int) × (Nat → Int) × (Nat → Int))) :=
  gd (inI x5) <|
  gd (inI (x2 + x3)) <|
  if (x2 + x3) ≤ x5 then
    some (1, (x5, b_counts, b_stepPrices, b_pairsOf, b_stepCosts))
  else
    gd (0 ≤ x5 ∧ x5 < (gn0 : Int)) <|
    (m_X8_wordOf (g0 (Int.toNat x5))).bind fun r_15 =>
    gd (inI r_15) <|
    if r_15 = (-1) then
      m_X1_learn_38 x2 x3 x4 x5 b_wordKinds b_counts b_stepPrices b_pairsOf b_stepCosts g0 gn0
    else
      gd (0 ≤ r_15 ∧ r_15 < 60) <|
      gd (0 ≤ r_15 ∧ r_15 < 60) <|
      vl (uz b_counts (Int.toNat r_15) ((b_counts (Int.toNat r_15)) + x4)) fun b_counts_37 =>
      m_X1_learn_38 x2 x3 x4 x5 b_wordKinds b_counts_37 b_stepPrices b_pairsOf b_stepCosts g0 gn0
def m_X1_learn (x2 : Int) (x3 : Int) (x4 : Int) (b_wordKinds : Nat → Int) (b_counts : Nat → Int) (b_stepPrices : Nat → Int) (b_pairsOf : Nat → Int) (b_stepCosts : Nat → Int) (g0 : Nat → Int) (gn0 : Nat) : Option ((Nat → Int) × (Nat → Int) × (Nat → Int) × (Nat → Int)) :=
  (zloop (fun a => m_X1_learn_3 x2 x3 x4 a.1 b_wordKinds a.2.1 a.2.2.1 a.2.2.2.1 a.2.2.2.2 g0 gn0) FU (x2, b_counts, b_stepPrices, b_pairsOf, b_stepCosts)).bind fun (t_3, x5_3, b_counts_3, b_stepPrices_3, b_pairsOf_3, b_stepCosts_3) =>
  some (b_counts_3, b_stepPrices_3, b_pairsOf_3, b_stepCosts_3)
def m_X1_wordCost (x1 : Int) (b_counts : Nat → Int) (b_prices : Nat → Int) : Option (Int) :=
  gd (0 ≤ x1 ∧ x1 < 60) <|
  (m_X8_digits (b_counts (Int.toNat x1))).bind fun r_14 =>
  some ((b_prices (Int.toNat 2)) - (8 * r_14))
def m_X1_goesTogether (x1 : Int) (x2 : Int) (b_wordClasses : Nat → Int) (b_endings : Int) (b_endingClasses : Nat → Int) : Option (Int) :=
  gd (inI x2) <|
  if x2 = (-1) then
    some 1
  else
    gd (inI b_endings) <|
    if b_endings ≤ x2 then
      some 0
    else
      gd (0 ≤ x2 ∧ x2 < 8) <|
      gd (0 ≤ x1 ∧ x1 < 60) <|
      gd (inI (b_endingClasses (Int.toNat x2))) <|
      gd (inI (b_wordClasses (Int.toNat x1))) <|
      if (b_endingClasses (Int.toNat x2)) = (b_wordClasses (Int.toNat x1)) then
        some 1
      else
        some 0
def m_X8_rowLength_13 (x2 : Int) (x3 : Int) (x4 : Int) (x5 : Int) (x7 : Int) (x9 : Int) : Option (Nat × (Int × Int)) :=
  gd (inI x9) <|
  gd (inI x4) <|
  if x4 ≤ x9 then
    some (1, (x7, x9))
  else
    gd (inL (zland x7 x5)) <|
    if (zland x7 x5) = 0 then
      some (1, (x7, x9))
    else
      gd (inI x3) <|
      gd (inL x3) <|
      if (zland x7 x5) ≤ x3 then
        gd (inL x7) <|
        gd (0 ≤ x2 ∧ x2 < 64) <|
        vl (zushr x7 x2) fun x7_47 =>
        vl (x9 + 1) fun x9_49 =>
        some (0, (x7_47, x9_49))
      else
        some (2, (x7, x9))
def m_X8_rowLength_55 (x7 : Int) (x9 : Int) : Option (Int) :=
  gd (inL x7) <|
  if x7 = 0 then
    some x9
  else
    some 0
def m_X8_rowLength (x0 : Int) (x2 : Int) (x3 : Int) (x4 : Int) : Option (Int) :=
  gd (0 ≤ x2 ∧ x2 < 64) <|
  vl ((1 * 2 ^ Int.toNat x2) - 1) fun x5_5 =>
  (zloop (fun a => m_X8_rowLength_13 x2 x3 x4 x5_5 a.1 a.2) FU (x0, 0)).bind fun (t_13, x7_13, x9_13) =>
  if t_13 = 1 then
    m_X8_rowLength_55 x7_13 x9_13
  else
    some 0
def m_X8_endingOf (x0 : Int) : Option (Int) :=
  gd (inI x0) <|
  if x0 = 540 then
    some (-1)
  else
    some ((Int.tmod x0 9) - 1)
def m_X1_signsOf (x1 : Int) (b_wordSigns : Nat → Int) : Option (Int) :=
  gd (inI x1) <|
  if x1 = 540 then
    some 1
  else
    (m_X8_wordOf x1).bind fun r_14 =>
    gd (0 ≤ r_14 ∧ r_14 < 60) <|
    (m_X8_rowLength (b_wordSigns (Int.toNat r_14)) 14 16383 4).bind fun r_24 =>
    (m_X8_endingOf x1).bind fun r_28 =>
    gd (inI r_28) <|
    if r_28 = (-1) then
      some (r_24 + 0)
    else
      some (r_24 + 1)
def m_X1_signAt_44 (x1 : Int) (x2 : Int) (b_wordSigns : Nat → Int) (b_endingSigns : Nat → Int) : Option (Int) :=
  (m_X8_wordOf x1).bind fun r_49 =>
  gd (0 ≤ r_49 ∧ r_49 < 60) <|
  gd (inL (b_wordSigns (Int.toNat r_49))) <|
  gd (0 ≤ (x2 * 14) ∧ (x2 * 14) < 64) <|
  some (((b_wordSigns (Int.toNat r_49)) / 2 ^ Int.toNat (x2 * 14)) % 16384)
def m_X1_signAt (x1 : Int) (x2 : Int) (x3 : Int) (b_wordSigns : Nat → Int) (b_endingSigns : Nat → Int) : Option (Int) :=
  gd (inI x1) <|
  if x1 = 540 then
    some (20000 + x3)
  else
    (m_X8_endingOf x1).bind fun r_14 =>
    gd (inI r_14) <|
    if r_14 = (-1) then
      m_X1_signAt_44 x1 x2 b_wordSigns b_endingSigns
    else
      (m_X1_signsOf x1 b_wordSigns).bind fun r_28 =>
      gd (inI x2) <|
      gd (inI (r_28 - 1)) <|
      if x2 = (r_28 - 1) then
        gd (0 ≤ r_14 ∧ r_14 < 8) <|
        some (b_endingSigns (Int.toNat r_14))
      else
        m_X1_signAt_44 x1 x2 b_wordSigns b_endingSigns
def m_J7_fill_53178_5 (x1 : Int) (x2 : Int) (x3 : Int) (g0 : Nat → Int) (gn0 : Nat) : Option (Nat × (Int × (Nat → Int))) :=
  gd (inI x2) <|
  gd (inI x3) <|
  if x3 ≤ x2 then
    some (1, (x2, g0))
  else
    gd (0 ≤ x2 ∧ x2 < (gn0 : Int)) <|
    vl (uz g0 (Int.toNat x2) x1) fun g0_13 =>
    vl (x2 + 1) fun x2_14 =>
    some (0, (x2_14, g0_13))
def m_J7_fill_53178 (x1 : Int) (g0 : Nat → Int) (gn0 : Nat) : Option ((Nat → Int)) :=
  vl (gn0 : Int) fun x3_4 =>
  (zloop (fun a => m_J7_fill_53178_5 x1 a.1 x3_4 a.2 gn0) FU (0, g0)).bind fun (t_5, x2_5, g0_5) =>
  some g0_5
def m_X4_partsAt (x1 : Int) (s_length : Int) (s_breaks : Nat → Int) : Option (Int) :=
  gd (inI x1) <|
  if x1 = 0 then
    some 1
  else
    gd (inI s_length) <|
    if x1 = s_length then
      some 1
    else
      gd (0 ≤ x1 ∧ x1 < 36) <|
      gd (inI (s_breaks (Int.toNat x1))) <|
      if (s_breaks (Int.toNat x1)) = 2 then
        some 0
      else
        some 1
def m_X4_reachFrom_4 (x2 : Int) (s_length : Int) (s_breaks : Nat → Int) : Option (Nat × (Int)) :=
  gd (inI x2) <|
  gd (inI s_length) <|
  if s_length ≤ x2 then
    some (1, x2)
  else
    gd (0 ≤ x2 ∧ x2 < 36) <|
    gd (inI (s_breaks (Int.toNat x2))) <|
    if (s_breaks (Int.toNat x2)) = 1 then
      some (1, x2)
    else
      vl (x2 + 1) fun x2_22 =>
      some (0, x2_22)
def m_X4_reachFrom (x1 : Int) (s_length : Int) (s_breaks : Nat → Int) : Option (Int) :=
  vl (x1 + 1) fun x2_3 =>
  (zloop (fun a => m_X4_reachFrom_4 a s_length s_breaks) FU x2_3).bind fun (t_4, x2_4) =>
  some x2_4
def m_X8_fillRange_3 (x2 : Int) (x3 : Int) (x4 : Int) (g0 : Nat → Int) (gn0 : Nat) : Option (Nat × (Int × (Nat → Int))) :=
  gd (inI x4) <|
  gd (inI x2) <|
  if x2 ≤ x4 then
    some (1, (x4, g0))
  else
    gd (0 ≤ x4 ∧ x4 < (gn0 : Int)) <|
    vl (uz g0 (Int.toNat x4) x3) fun g0_13 =>
    vl (x4 + 1) fun x4_14 =>
    some (0, (x4_14, g0_13))
def m_X8_fillRange (x1 : Int) (x2 : Int) (x3 : Int) (g0 : Nat → Int) (gn0 : Nat) : Option ((Nat → Int)) :=
  (zloop (fun a => m_X8_fillRange_3 x2 x3 a.1 a.2 gn0) FU (x1, g0)).bind fun (t_3, x4_3, g0_3) =>
  some g0_3
def m_X4_copyFrom (s_length : Int) (s_letters : Nat → Int) (s_breaks : Nat → Int) (s_fixed : Nat → Int) (w_length : Int) (w_letters : Nat → Int) (w_breaks : Nat → Int) (w_fixed : Nat → Int) : Option (Int × (Nat → Int) × (Nat → Int) × (Nat → Int)) :=
  vl (zcp w_letters s_letters (Int.toNat 0) (Int.toNat 0) (Int.toNat 36)) fun s_letters_20 =>
  vl (zcp w_breaks s_breaks (Int.toNat 0) (Int.toNat 0) (Int.toNat 36)) fun s_breaks_35 =>
  vl (zcp w_fixed s_fixed (Int.toNat 0) (Int.toNat 0) (Int.toNat 36)) fun s_fixed_50 =>
  some (w_length, s_letters_20, s_breaks_35, s_fixed_50)
def m_X4_fixedEndsAt_2 (x1 : Int) (x2 : Int) (s_fixed : Nat → Int) : Option (Nat × (Int)) :=
  gd (inI x2) <|
  gd (inI x1) <|
  if x1 ≤ x2 then
    some (1, x2)
  else
    gd (0 ≤ x2 ∧ x2 < 36) <|
    gd (inI (s_fixed (Int.toNat x2))) <|
    gd (inI ((s_fixed (Int.toNat x2)) / 1024)) <|
    if ((s_fixed (Int.toNat x2)) / 1024) = x1 then
      some (2, x2)
    else
      vl (x2 + 1) fun x2_22 =>
      some (0, x2_22)
def m_X4_fixedEndsAt (x1 : Int) (s_fixed : Nat → Int) : Option (Int) :=
  (zloop (fun a => m_X4_fixedEndsAt_2 x1 a s_fixed) FU 0).bind fun (t_2, x2_2) =>
  if t_2 = 1 then
    some 0
  else
    some 1
def m_X4_append_34 (t1 : Int) (t2 : Int) (s_length : Int) (s_letters : Nat → Int) (s_breaks : Nat → Int) (s_fixed : Nat → Int) : Option (Int × (Nat → Int) × (Nat → Int)) :=
  gd (0 ≤ t1 ∧ t1 < 36) <|
  vl (uz s_breaks (Int.toNat t1) t2) fun s_breaks_34 =>
  vl (s_length + 1) fun s_length_42 =>
  some (s_length_42, s_letters, s_breaks_34)
def m_X4_append (x1 : Int) (s_length : Int) (s_letters : Nat → Int) (s_breaks : Nat → Int) (s_fixed : Nat → Int) : Option (Int × (Nat → Int) × (Nat → Int)) :=
  gd (0 ≤ s_length ∧ s_length < 36) <|
  vl (uz s_letters (Int.toNat s_length) x1) fun s_letters_9 =>
  (m_X4_fixedEndsAt s_length s_fixed).bind fun r_23 =>
  gd (inI r_23) <|
  if r_23 = 0 then
    m_X4_append_34 s_length 0 s_length s_letters_9 s_breaks s_fixed
  else
    m_X4_append_34 s_length 1 s_length s_letters_9 s_breaks s_fixed
def m_X4_freeHand (s_breaks : Nat → Int) (s_fixed : Nat → Int) : Option ((Nat → Int) × (Nat → Int)) :=
  (m_J7_fill_53178 0 s_breaks 36).bind fun s_breaks_5 =>
  (m_J7_fill_53178 0 s_fixed 36).bind fun s_fixed_13 =>
  some (s_breaks_5, s_fixed_13)
def m_X4_clear (s_length : Int) (s_breaks : Nat → Int) (s_fixed : Nat → Int) : Option (Int × (Nat → Int) × (Nat → Int)) :=
  (m_X4_freeHand s_breaks s_fixed).bind fun (s_breaks_6, s_fixed_6) =>
  some (0, s_breaks_6, s_fixed_6)
def m_X4_fixedParts_4 (x1 : Int) (x2 : Int) (s_fixed : Nat → Int) : Option (Nat × (Int × Int)) :=
  gd (inI x2) <|
  if 36 ≤ x2 then
    some (1, (x1, x2))
  else
    gd (0 ≤ x2 ∧ x2 < 36) <|
    gd (inI (s_fixed (Int.toNat x2))) <|
    if (s_fixed (Int.toNat x2)) = 0 then
      vl (x2 + 1) fun x2_22 =>
      some (0, (x1, x2_22))
    else
      vl (x1 + 1) fun x1_19 =>
      vl (x2 + 1) fun x2_22_v2 =>
      some (0, (x1_19, x2_22_v2))
def m_X4_fixedParts (s_fixed : Nat → Int) : Option (Int) :=
  (zloop (fun a => m_X4_fixedParts_4 a.1 a.2 s_fixed) FU (0, 0)).bind fun (t_4, x1_4, x2_4) =>
  some x1_4
def m_X4_wantBreak (x1 : Int) (s_length : Int) (s_breaks : Nat → Int) : Option ((Nat → Int)) :=
  gd (inI x1) <|
  if x1 ≤ 0 then
    some s_breaks
  else
    gd (inI s_length) <|
    if s_length ≤ x1 then
      some s_breaks
    else
      gd (0 ≤ x1 ∧ x1 < 36) <|
      vl (uz s_breaks (Int.toNat x1) 1) fun s_breaks_18 =>
      some s_breaks_18
def m_X4_fix_3 (x1 : Int) (x2 : Int) (x3 : Int) (x4 : Int) (s_length : Int) (s_breaks : Nat → Int) (s_fixed : Nat → Int) : Option (Nat × (Int × (Nat → Int))) :=
  gd (inI x4) <|
  gd (inI x2) <|
  if x2 ≤ x4 then
    some (1, (x4, s_fixed))
  else
    gd (0 ≤ x4 ∧ x4 < 36) <|
    gd (inI (s_fixed (Int.toNat x4))) <|
    gd (inI ((s_fixed (Int.toNat x4)) / 1024)) <|
    gd (inI x1) <|
    if ((s_fixed (Int.toNat x4)) / 1024) ≤ x1 then
      vl (x4 + 1) fun x4_31 =>
      some (0, (x4_31, s_fixed))
    else
      gd (0 ≤ x4 ∧ x4 < 36) <|
      vl (uz s_fixed (Int.toNat x4) 0) fun s_fixed_30 =>
      vl (x4 + 1) fun x4_31_v2 =>
      some (0, (x4_31_v2, s_fixed_30))
def m_X4_fix (x1 : Int) (x2 : Int) (x3 : Int) (s_length : Int) (s_breaks : Nat → Int) (s_fixed : Nat → Int) : Option ((Nat → Int) × (Nat → Int)) :=
  (zloop (fun a => m_X4_fix_3 x1 x2 x3 a.1 s_length s_breaks a.2) FU (0, s_fixed)).bind fun (t_3, x4_3, s_fixed_3) =>
  gd (0 ≤ x1 ∧ x1 < 36) <|
  vl (uz s_fixed_3 (Int.toNat x1) ((x2 * 1024) + x3)) fun s_fixed_48 =>
  (m_X8_fillRange (x1 + 1) x2 2 s_breaks 36).bind fun s_breaks_58 =>
  (m_X4_wantBreak x1 s_length s_breaks_58).bind fun s_breaks_63 =>
  (m_X4_wantBreak x2 s_length s_breaks_63).bind fun s_breaks_68 =>
  some (s_breaks_68, s_fixed_48)
def m_X4_moveBreak_81 (x1 : Int) (x2 : Int) (x3 : Int) (s_breaks : Nat → Int) (s_fixed : Nat → Int) : Option (Nat × (Int × (Nat → Int))) :=
  gd (0 ≤ x3 ∧ x3 < 36) <|
  vl (uz s_fixed (Int.toNat x3) 0) fun s_fixed_87 =>
  vl (x3 + 1) fun x3_88_v3 =>
  some (0, (x3_88_v3, s_fixed_87))
def m_X4_moveBreak_71 (x1 : Int) (x2 : Int) (x3 : Int) (x6 : Int) (s_breaks : Nat → Int) (s_fixed : Nat → Int) : Option (Nat × (Int × (Nat → Int))) :=
  gd (inI x6) <|
  if x6 = 0 then
    vl (x3 + 1) fun x3_88 =>
    some (0, (x3_88, s_fixed))
  else
    gd (inI x2) <|
    if x2 = 1 then
      vl (x3 + 1) fun x3_88_v2 =>
      some (0, (x3_88_v2, s_fixed))
    else
      m_X4_moveBreak_81 x1 x2 x3 s_breaks s_fixed
def m_X4_moveBreak_59 (x1 : Int) (x2 : Int) (x3 : Int) (x5 : Int) (t0 : Int) (s_breaks : Nat → Int) (s_fixed : Nat → Int) : Option (Nat × (Int × (Nat → Int))) :=
  gd (inI x5) <|
  if x5 = 0 then
    m_X4_moveBreak_71 x1 x2 x3 t0 s_breaks s_fixed
  else
    gd (inI x2) <|
    if x2 = 2 then
      m_X4_moveBreak_71 x1 x2 x3 t0 s_breaks s_fixed
    else
      m_X4_moveBreak_81 x1 x2 x3 s_breaks s_fixed
def m_X4_moveBreak_54 (x1 : Int) (x2 : Int) (x3 : Int) (x5 : Int) (s_breaks : Nat → Int) (s_fixed : Nat → Int) : Option (Nat × (Int × (Nat → Int))) :=
  m_X4_moveBreak_59 x1 x2 x3 x5 1 s_breaks s_fixed
def m_X4_moveBreak_41 (x1 : Int) (x2 : Int) (x3 : Int) (x4 : Int) (t0 : Int) (s_breaks : Nat → Int) (s_fixed : Nat → Int) : Option (Nat × (Int × (Nat → Int))) :=
  gd (inI x3) <|
  gd (inI x1) <|
  if x3 = x1 then
    m_X4_moveBreak_54 x1 x2 x3 t0 s_breaks s_fixed
  else
    gd (inI x4) <|
    if x4 = x1 then
      m_X4_moveBreak_54 x1 x2 x3 t0 s_breaks s_fixed
    else
      m_X4_moveBreak_59 x1 x2 x3 t0 0 s_breaks s_fixed
def m_X4_moveBreak_40 (x1 : Int) (x2 : Int) (x3 : Int) (x4 : Int) (s_breaks : Nat → Int) (s_fixed : Nat → Int) : Option (Nat × (Int × (Nat → Int))) :=
  m_X4_moveBreak_41 x1 x2 x3 x4 0 s_breaks s_fixed
def m_X4_moveBreak_9 (x1 : Int) (x2 : Int) (x3 : Int) (s_breaks : Nat → Int) (s_fixed : Nat → Int) : Option (Nat × (Int × (Nat → Int))) :=
  gd (inI x3) <|
  gd (inI x1) <|
  if x1 < x3 then
    some (1, (x3, s_fixed))
  else
    gd (0 ≤ x3 ∧ x3 < 36) <|
    gd (inI (s_fixed (Int.toNat x3))) <|
    vl ((s_fixed (Int.toNat x3)) / 1024) fun x4_23 =>
    if x1 ≤ x3 then
      m_X4_moveBreak_40 x1 x2 x3 x4_23 s_breaks s_fixed
    else
      gd (inI x4_23) <|
      if x4_23 ≤ x1 then
        m_X4_moveBreak_40 x1 x2 x3 x4_23 s_breaks s_fixed
      else
        m_X4_moveBreak_41 x1 x2 x3 x4_23 1 s_breaks s_fixed
def m_X4_moveBreak (x1 : Int) (x2 : Int) (s_breaks : Nat → Int) (s_fixed : Nat → Int) : Option ((Nat → Int) × (Nat → Int)) :=
  gd (0 ≤ x1 ∧ x1 < 36) <|
  vl (uz s_breaks (Int.toNat x1) x2) fun s_breaks_6 =>
  (zloop (fun a => m_X4_moveBreak_9 x1 x2 a.1 s_breaks_6 a.2) FU (0, s_fixed)).bind fun (t_9, x3_9, s_fixed_9) =>
  some (s_breaks_6, s_fixed_9)
def m_X7_keep (x2 : Int) (t_entries : Nat → Int) (t_lengths : Nat → Int) (t_kept : Int) (g0 : Nat → Int) (gn0 : Nat) : Option ((Nat → Int) × (Nat → Int) × Int) :=
  gd (0 ≤ (0 : Int) ∧ 0 ≤ (t_kept * 36) ∧ 0 ≤ x2 ∧ (0 : Int) + x2 ≤ (gn0 : Int) ∧ (t_kept * 36) + x2 ≤ 1440) <|
  vl (zcp g0 t_entries (Int.toNat 0) (Int.toNat (t_kept * 36)) (Int.toNat x2)) fun t_entries_14 =>
  gd (0 ≤ t_kept ∧ t_kept < 40) <|
  vl (uz t_lengths (Int.toNat t_kept) x2) fun t_lengths_26 =>
  vl (t_kept + 1) fun t_kept_34 =>
  some (t_entries_14, t_lengths_26, t_kept_34)
def m_X8_areKinds (x0 : Int) (x1 : Int) : Option (Int) :=
  gd (inI x0) <|
  if x0 < 0 then
    some 0
  else
    if 9 ≤ x0 then
      some 0
    else
      gd (inI x1) <|
      if x1 < 0 then
        some 0
      else
        if 9 ≤ x1 then
          some 0
        else
          some 1
def m_X5_placeOf (x1 : Int) (x2 : Int) : Option (Int) :=
  gd (inI (x2 * (x2 - 1))) <|
  some (((Int.tdiv (x2 * (x2 - 1)) 2) + x1) * 9)
def m_X6_startAt (x1 : Int) (x2 : Int) (p_now : Nat → Int) (p_low : Int) (p_high : Int) : Option ((Nat → Int) × Int × Int) :=
  gd (0 ≤ x1 ∧ x1 < 37) <|
  vl (uz p_now (Int.toNat x1) x2) fun p_now_16 =>
  some (p_now_16, x1, x1)
def m_X6_priceAt_27 (x1 : Int) (x2 : Int) (x3 : Int) (x4 : Int) (x5 : Int) (x6 : Int) (b_spellingRows : Nat → Int) (b_spellingLengths : Nat → Int) (b_spellingPrices : Nat → Int) (b_prices : Nat → Int) (s_letters : Nat → Int) : Option (Nat × (Int × Int)) :=
  gd (inI x6) <|
  gd (inI x4) <|
  if x4 ≤ x6 then
    some (1, (x5, x6))
  else
    gd (inI x5) <|
    if 1 < x5 then
      some (1, (x5, x6))
    else
      gd (inI x3) <|
      gd (0 ≤ (x6 * 5) ∧ (x6 * 5) < 32) <|
      gd (0 ≤ (x2 + x6) ∧ (x2 + x6) < 36) <|
      gd (inI ((x3 / 2 ^ Int.toNat (x6 * 5)) % 32)) <|
      gd (inI (s_letters (Int.toNat (x2 + x6)))) <|
      if ((x3 / 2 ^ Int.toNat (x6 * 5)) % 32) = (s_letters (Int.toNat (x2 + x6))) then
        vl (x6 + 1) fun x6_67 =>
        some (0, (x5, x6_67))
      else
        vl (x5 + 1) fun x5_64 =>
        vl (x6 + 1) fun x6_67_v2 =>
        some (0, (x5_64, x6_67_v2))
def m_X6_priceAt_73 (x1 : Int) (x5 : Int) (b_spellingRows : Nat → Int) (b_spellingLengths : Nat → Int) (b_spellingPrices : Nat → Int) (b_prices : Nat → Int) (s_letters : Nat → Int) : Option (Int) :=
  gd (inI x5) <|
  if x5 ≤ 1 then
    gd (0 ≤ x1 ∧ x1 < 150) <|
    some ((b_spellingPrices (Int.toNat x1)) + (x5 * (b_prices (Int.toNat 0))))
  else
    some 268435456
def m_X6_priceAt (x1 : Int) (x2 : Int) (b_spellingRows : Nat → Int) (b_spellingLengths : Nat → Int) (b_spellingPrices : Nat → Int) (b_prices : Nat → Int) (s_letters : Nat → Int) : Option (Int) :=
  gd (0 ≤ x1 ∧ x1 < 150) <|
  vl (b_spellingRows (Int.toNat x1)) fun x3_9 =>
  gd (0 ≤ x1 ∧ x1 < 150) <|
  vl (b_spellingLengths (Int.toNat x1)) fun x4_19 =>
  (zloop (fun a => m_X6_priceAt_27 x1 x2 x3_9 x4_19 a.1 a.2 b_spellingRows b_spellingLengths b_spellingPrices b_prices s_letters) FU (0, 0)).bind fun (t_27, x5_27, x6_27) =>
  m_X6_priceAt_73 x1 x5_27 b_spellingRows b_spellingLengths b_spellingPrices b_prices s_letters
def m_X6_stepBack_11 (x1 : Int) (x2 : Int) (b_spellingsOf : Nat → Int) (b_spellingRows : Nat → Int) (b_spellingLengths : Nat → Int) (b_spellingPrices : Nat → Int) (b_prices : Nat → Int) (s_letters : Nat → Int) (p_now : Nat → Int) (p_nowA : Nat) (p_next : Nat → Int) (p_nextA : Nat) (p_low : Int) (p_high : Int) : Option (Nat × (Int × (Nat → Int))) :=
  gd (inI x2) <|
  gd (inI p_high) <|
  if p_high ≤ x2 then
    some (1, (x2, p_next))
  else
    gd (0 ≤ x2 ∧ x2 < 37) <|
    vl (uz p_next (Int.toNat x2) 268435456) fun p_next_26 =>
    vl (x2 + 1) fun x2_27 =>
    some (0, (x2_27, p_next_26))
def m_X6_stepBack_192 (x2 : Int) (x3 : Int) (x4 : Int) (x5 : Int) (x6 : Int) (x7 : Int) (x8 : Int) (t0 : Int) (b_spellingsOf : Nat → Int) (b_spellingRows : Nat → Int) (b_spellingLengths : Nat → Int) (b_spellingPrices : Nat → Int) (b_prices : Nat → Int) (s_letters : Nat → Int) (p_now : Nat → Int) (p_nowA : Nat) (p_next : Nat → Int) (p_nextA : Nat) (p_low : Int) (p_high : Int) : Option (Nat × (Int × Int × Int × (Nat → Int))) :=
  gd (inI x8) <|
  gd (inI x3) <|
  if x8 ≤ x3 then
    vl (x7 + 1) fun x7_206_v3 =>
    some (0, (t0, x3, x7_206_v3, p_next))
  else
    vl (x7 + 1) fun x7_206_v4 =>
    some (0, (t0, x8, x7_206_v4, p_next))
def m_X6_stepBack_130 (x2 : Int) (x3 : Int) (x4 : Int) (x5 : Int) (x6 : Int) (x7 : Int) (x8 : Int) (t0 : Int) (b_spellingsOf : Nat → Int) (b_spellingRows : Nat → Int) (b_spellingLengths : Nat → Int) (b_spellingPrices : Nat → Int) (b_prices : Nat → Int) (s_letters : Nat → Int) (p_now : Nat → Int) (p_nowA : Nat) (p_next : Nat → Int) (p_nextA : Nat) (p_low : Int) (p_high : Int) : Option (Nat × (Int × Int × Int × (Nat → Int))) :=
  gd (inI t0) <|
  if t0 = 268435456 then
    vl (x7 + 1) fun x7_206 =>
    some (0, (x2, x3, x7_206, p_next))
  else
    gd (0 ≤ x6 ∧ x6 < 37) <|
    gd (0 ≤ x8 ∧ x8 < 37) <|
    gd (inI ((p_now (Int.toNat x6)) + (t0 * 16))) <|
    gd (inI (p_next (Int.toNat x8))) <|
    if (p_next (Int.toNat x8)) ≤ ((p_now (Int.toNat x6)) + (t0 * 16)) then
      vl (x7 + 1) fun x7_206_v2 =>
      some (0, (x2, x3, x7_206_v2, p_next))
    else
      gd (0 ≤ x6 ∧ x6 < 37) <|
      gd (0 ≤ x8 ∧ x8 < 37) <|
      vl (uz p_next (Int.toNat x8) ((p_now (Int.toNat x6)) + (t0 * 16))) fun p_next_179 =>
      gd (inI x2) <|
      if x2 ≤ x8 then
        m_X6_stepBack_192 x2 x3 x4 x5 x6 x7 x8 x2 b_spellingsOf b_spellingRows b_spellingLengths b_spellingPrices b_prices s_letters p_now p_nowA p_next_179 p_nextA p_low p_high
      else
        m_X6_stepBack_192 x2 x3 x4 x5 x6 x7 x8 x8 b_spellingsOf b_spellingRows b_spellingLengths b_spellingPrices b_prices s_letters p_now p_nowA p_next_179 p_nextA p_low p_high
def m_X6_stepBack_78 (x2 : Int) (x3 : Int) (x4 : Int) (x5 : Int) (x6 : Int) (x7 : Int) (b_spellingsOf : Nat → Int) (b_spellingRows : Nat → Int) (b_spellingLengths : Nat → Int) (b_spellingPrices : Nat → Int) (b_prices : Nat → Int) (s_letters : Nat → Int) (p_now : Nat → Int) (p_nowA : Nat) (p_next : Nat → Int) (p_nextA : Nat) (p_low : Int) (p_high : Int) : Option (Nat × (Int × Int × Int × (Nat → Int))) :=
  gd (inI x7) <|
  gd (inI x5) <|
  if x5 ≤ x7 then
    some (1, (x2, x3, x7, p_next))
  else
    gd (0 ≤ x6 ∧ x6 < 37) <|
    gd (inI (p_now (Int.toNat x6))) <|
    if (p_now (Int.toNat x6)) = 268435456 then
      some (1, (x2, x3, x7, p_next))
    else
      gd (0 ≤ x7 ∧ x7 < 150) <|
      vl (x6 - (b_spellingLengths (Int.toNat x7))) fun x8_110 =>
      gd (inI x8_110) <|
      if 0 ≤ x8_110 then
        (m_X6_priceAt x7 x8_110 b_spellingRows b_spellingLengths b_spellingPrices b_prices s_letters).bind fun r_127 =>
        m_X6_stepBack_130 x2 x3 x4 x5 x6 x7 x8_110 r_127 b_spellingsOf b_spellingRows b_spellingLengths b_spellingPrices b_prices s_letters p_now p_nowA p_next p_nextA p_low p_high
      else
        m_X6_stepBack_130 x2 x3 x4 x5 x6 x7 x8_110 268435456 b_spellingsOf b_spellingRows b_spellingLengths b_spellingPrices b_prices s_letters p_now p_nowA p_next p_nextA p_low p_high
