def m_X2_offerWords_16 (x1 : Int) (x2 : Int) (x3 : Int) (x4 : Int) (b_spellingsOf : Nat → Int) (b_spellingRows : Nat → Int) (b_spellingLengths : Nat → Int) (b_spellingPrices : Nat → Int) (b_words : Int) (b_wordSounds : Nat → Int) (b_wordKinds : Nat → Int) (b_wordClasses : Nat → Int) (b_counts : Nat → Int) (b_endings : Int) (b_endingSounds : Nat → Int) (b_endingClasses : Nat → Int) (b_endingPrices : Nat → Int) (b_prices : Nat → Int) (o_leads : Nat → Int) (o_length : Int) (o_entries : Nat → Int) (o_costs : Nat → Int) (r_rests : Nat → Int) (s_letters : Nat → Int) (p_now : Nat → Int) (p_nowA : Nat) (p_next : Nat → Int) (p_nextA : Nat) (p_low : Int) (p_high : Int) : Option (Nat × (Int × Int × (Nat → Int) × (Nat → Int) × (Nat → Int) × Nat × (Nat → Int) × Nat × Int × Int)) :=
  gd (inI x4) <|
  gd (inI b_endings) <|
  if b_endings ≤ x4 then
    some (1, (x4, o_length, o_entries, o_costs, p_now, p_nowA, p_next, p_nextA, p_low, p_high))
  else
    (m_X1_goesTogether x3 x4 b_wordClasses b_endings b_endingClasses).bind fun r_35 =>
    gd (inI r_35) <|
    if r_35 = 0 then
      vl (x4 + 1) fun x4_71 =>
      some (0, (x4_71, o_length, o_entries, o_costs, p_now, p_nowA, p_next, p_nextA, p_low, p_high))
    else
      vl (((x3 * 9) + x4) + 1) fun x5_50 =>
      (m_X6_costOf x5_50 x1 x2 b_spellingsOf b_spellingRows b_spellingLengths b_spellingPrices b_wordSounds b_counts b_endingSounds b_endingPrices b_prices s_letters p_now p_nowA p_next p_nextA p_low p_high).bind fun (r_63, p_now_63, p_nowA_63, p_next_63, p_nextA_63, p_low_63, p_high_63) =>
      (m_X2_offer x5_50 r_63 x1 x2 b_wordKinds o_leads o_length o_entries o_costs r_rests).bind fun (o_length_68, o_entries_68, o_costs_68) =>
      vl (x4 + 1) fun x4_71_v2 =>
      some (0, (x4_71_v2, o_length_68, o_entries_68, o_costs_68, p_now_63, p_nowA_63, p_next_63, p_nextA_63, p_low_63, p_high_63))
def m_X2_offerWords_2 (x1 : Int) (x2 : Int) (x3 : Int) (b_spellingsOf : Nat → Int) (b_spellingRows : Nat → Int) (b_spellingLengths : Nat → Int) (b_spellingPrices : Nat → Int) (b_words : Int) (b_wordSounds : Nat → Int) (b_wordKinds : Nat → Int) (b_wordClasses : Nat → Int) (b_counts : Nat → Int) (b_endings : Int) (b_endingSounds : Nat → Int) (b_endingClasses : Nat → Int) (b_endingPrices : Nat → Int) (b_prices : Nat → Int) (o_leads : Nat → Int) (o_length : Int) (o_entries : Nat → Int) (o_costs : Nat → Int) (r_rests : Nat → Int) (s_letters : Nat → Int) (p_now : Nat → Int) (p_nowA : Nat) (p_next : Nat → Int) (p_nextA : Nat) (p_low : Int) (p_high : Int) : Option (Nat × (Int × Int × (Nat → Int) × (Nat → Int) × (Nat → Int) × Nat × (Nat → Int) × Nat × Int × Int)) :=
  gd (inI x3) <|
  gd (inI b_words) <|
  if b_words ≤ x3 then
    some (1, (x3, o_length, o_entries, o_costs, p_now, p_nowA, p_next, p_nextA, p_low, p_high))
  else
    (zloop (fun a => m_X2_offerWords_16 x1 x2 x3 a.1 b_spellingsOf b_spellingRows b_spellingLengths b_spellingPrices b_words b_wordSounds b_wordKinds b_wordClasses b_counts b_endings b_endingSounds b_endingClasses b_endingPrices b_prices o_leads a.2.1 a.2.2.1 a.2.2.2.1 r_rests s_letters a.2.2.2.2.1 a.2.2.2.2.2.1 a.2.2.2.2.2.2.1 a.2.2.2.2.2.2.2.1 a.2.2.2.2.2.2.2.2.1 a.2.2.2.2.2.2.2.2.2) FU ((-1), o_length, o_entries, o_costs, p_now, p_nowA, p_next, p_nextA, p_low, p_high)).bind fun (t_16, x4_16, o_length_16, o_entries_16, o_costs_16, p_now_16, p_nowA_16, p_next_16, p_nextA_16, p_low_16, p_high_16) =>
    vl (x3 + 1) fun x3_77 =>
    some (0, (x3_77, o_length_16, o_entries_16, o_costs_16, p_now_16, p_nowA_16, p_next_16, p_nextA_16, p_low_16, p_high_16))
def m_X2_offerWords (x1 : Int) (x2 : Int) (b_spellingsOf : Nat → Int) (b_spellingRows : Nat → Int) (b_spellingLengths : Nat → Int) (b_spellingPrices : Nat → Int) (b_words : Int) (b_wordSounds : Nat → Int) (b_wordKinds : Nat → Int) (b_wordClasses : Nat → Int) (b_counts : Nat → Int) (b_endings : Int) (b_endingSounds : Nat → Int) (b_endingClasses : Nat → Int) (b_endingPrices : Nat → Int) (b_prices : Nat → Int) (o_leads : Nat → Int) (o_length : Int) (o_entries : Nat → Int) (o_costs : Nat → Int) (r_rests : Nat → Int) (s_letters : Nat → Int) (p_now : Nat → Int) (p_nowA : Nat) (p_next : Nat → Int) (p_nextA : Nat) (p_low : Int) (p_high : Int) : Option (Int × (Nat → Int) × (Nat → Int) × (Nat → Int) × Nat × (Nat → Int) × Nat × Int × Int) :=
  (zloop (fun a => m_X2_offerWords_2 x1 x2 a.1 b_spellingsOf b_spellingRows b_spellingLengths b_spellingPrices b_words b_wordSounds b_wordKinds b_wordClasses b_counts b_endings b_endingSounds b_endingClasses b_endingPrices b_prices o_leads a.2.1 a.2.2.1 a.2.2.2.1 r_rests s_letters a.2.2.2.2.1 a.2.2.2.2.2.1 a.2.2.2.2.2.2.1 a.2.2.2.2.2.2.2.1 a.2.2.2.2.2.2.2.2.1 a.2.2.2.2.2.2.2.2.2) FU (0, o_length, o_entries, o_costs, p_now, p_nowA, p_next, p_nextA, p_low, p_high)).bind fun (t_2, x3_2, o_length_2, o_entries_2, o_costs_2, p_now_2, p_nowA_2, p_next_2, p_nextA_2, p_low_2, p_high_2) =>
  some (o_length_2, o_entries_2, o_costs_2, p_now_2, p_nowA_2, p_next_2, p_nextA_2, p_low_2, p_high_2)
def m_X2_offerGuess (x1 : Int) (x2 : Int) (b_spellingsOf : Nat → Int) (b_spellingRows : Nat → Int) (b_spellingLengths : Nat → Int) (b_spellingPrices : Nat → Int) (b_wordSounds : Nat → Int) (b_wordKinds : Nat → Int) (b_counts : Nat → Int) (b_endingSounds : Nat → Int) (b_endingPrices : Nat → Int) (b_prices : Nat → Int) (o_leads : Nat → Int) (o_length : Int) (o_entries : Nat → Int) (o_costs : Nat → Int) (r_rests : Nat → Int) (s_letters : Nat → Int) (p_now : Nat → Int) (p_nowA : Nat) (p_next : Nat → Int) (p_nextA : Nat) (p_low : Int) (p_high : Int) : Option (Int × (Nat → Int) × (Nat → Int) × (Nat → Int) × Nat × (Nat → Int) × Nat × Int × Int) :=
  (m_X6_costOf 540 x1 x2 b_spellingsOf b_spellingRows b_spellingLengths b_spellingPrices b_wordSounds b_counts b_endingSounds b_endingPrices b_prices s_letters p_now p_nowA p_next p_nextA p_low p_high).bind fun (r_13, p_now_13, p_nowA_13, p_next_13, p_nextA_13, p_low_13, p_high_13) =>
  (m_X2_offer 540 r_13 x1 x2 b_wordKinds o_leads o_length o_entries o_costs r_rests).bind fun (o_length_18, o_entries_18, o_costs_18) =>
  some (o_length_18, o_entries_18, o_costs_18, p_now_13, p_nowA_13, p_next_13, p_nextA_13, p_low_13, p_high_13)
def m_X2_list (x1 : Int) (b_spellingsOf : Nat → Int) (b_spellingRows : Nat → Int) (b_spellingLengths : Nat → Int) (b_spellingPrices : Nat → Int) (b_words : Int) (b_wordSounds : Nat → Int) (b_wordKinds : Nat → Int) (b_wordClasses : Nat → Int) (b_counts : Nat → Int) (b_endings : Int) (b_endingSounds : Nat → Int) (b_endingClasses : Nat → Int) (b_endingPrices : Nat → Int) (b_prices : Nat → Int) (b_stepCosts : Nat → Int) (o_tails : Nat → Int) (o_leads : Nat → Int) (o_leadsKnown : Int) (o_listedPart : Int) (o_length : Int) (o_entries : Nat → Int) (o_costs : Nat → Int) (r_fixedValues : Nat → Int) (r_rests : Nat → Int) (r_length : Int) (r_begins : Nat → Int) (r_ends : Nat → Int) (s_length : Int) (s_letters : Nat → Int) (s_breaks : Nat → Int) (s_fixed : Nat → Int) (v_values : Nat → Int) (p_now : Nat → Int) (p_nowA : Nat) (p_next : Nat → Int) (p_nextA : Nat) (p_low : Int) (p_high : Int) : Option (Int × (Nat → Int) × (Nat → Int) × Int × Int × Int × (Nat → Int) × (Nat → Int) × (Nat → Int) × Nat × (Nat → Int) × Nat × Int × Int) :=
  gd (inI x1) <|
  if x1 < 0 then
    some (0, o_tails, o_leads, o_leadsKnown, o_listedPart, o_length, o_entries, o_costs, p_now, p_nowA, p_next, p_nextA, p_low, p_high)
  else
    gd (inI r_length) <|
    if x1 < r_length then
      gd (inI o_listedPart) <|
      if x1 = o_listedPart then
        some (1, o_tails, o_leads, o_leadsKnown, o_listedPart, o_length, o_entries, o_costs, p_now, p_nowA, p_next, p_nextA, p_low, p_high)
      else
        (m_X2_fillAllLeads b_wordKinds b_stepCosts o_tails o_leads o_leadsKnown r_fixedValues s_length s_breaks s_fixed v_values).bind fun (o_tails_26, o_leads_26, o_leadsKnown_26) =>
        gd (0 ≤ x1 ∧ x1 < 36) <|
        gd (0 ≤ x1 ∧ x1 < 36) <|
        (m_X2_offerWords (r_begins (Int.toNat x1)) (r_ends (Int.toNat x1)) b_spellingsOf b_spellingRows b_spellingLengths b_spellingPrices b_words b_wordSounds b_wordKinds b_wordClasses b_counts b_endings b_endingSounds b_endingClasses b_endingPrices b_prices o_leads_26 0 o_entries o_costs r_rests s_letters p_now p_nowA p_next p_nextA p_low p_high).bind fun (o_length_53, o_entries_53, o_costs_53, p_now_53, p_nowA_53, p_next_53, p_nextA_53, p_low_53, p_high_53) =>
        gd (0 ≤ x1 ∧ x1 < 36) <|
        gd (0 ≤ x1 ∧ x1 < 36) <|
        (m_X2_offerGuess (r_begins (Int.toNat x1)) (r_ends (Int.toNat x1)) b_spellingsOf b_spellingRows b_spellingLengths b_spellingPrices b_wordSounds b_wordKinds b_counts b_endingSounds b_endingPrices b_prices o_leads_26 o_length_53 o_entries_53 o_costs_53 r_rests s_letters p_now_53 p_nowA_53 p_next_53 p_nextA_53 p_low_53 p_high_53).bind fun (o_length_75, o_entries_75, o_costs_75, p_now_75, p_nowA_75, p_next_75, p_nextA_75, p_low_75, p_high_75) =>
        some (1, o_tails_26, o_leads_26, o_leadsKnown_26, x1, o_length_75, o_entries_75, o_costs_75, p_now_75, p_nowA_75, p_next_75, p_nextA_75, p_low_75, p_high_75)
    else
      some (0, o_tails, o_leads, o_leadsKnown, o_listedPart, o_length, o_entries, o_costs, p_now, p_nowA, p_next, p_nextA, p_low, p_high)
def m_X8_cost (b_spellingsOf : Nat → Int) (b_spellingRows : Nat → Int) (b_spellingLengths : Nat → Int) (b_spellingPrices : Nat → Int) (b_words : Int) (b_wordSounds : Nat → Int) (b_wordKinds : Nat → Int) (b_wordClasses : Nat → Int) (b_counts : Nat → Int) (b_endings : Int) (b_endingSounds : Nat → Int) (b_endingClasses : Nat → Int) (b_endingPrices : Nat → Int) (b_prices : Nat → Int) (b_stepCosts : Nat → Int) (r_fixedValues : Nat → Int) (r_heads : Nat → Int) (r_rests : Nat → Int) (r_known : Int) (r_total : Int) (r_length : Int) (r_begins : Nat → Int) (r_ends : Nat → Int) (r_entries : Nat → Int) (r_costs : Nat → Int) (s_length : Int) (s_letters : Nat → Int) (s_breaks : Nat → Int) (s_fixed : Nat → Int) (v_values : Nat → Int) (v_lettersRead : Nat → Int) (v_columns : Int) (p_now : Nat → Int) (p_nowA : Nat) (p_next : Nat → Int) (p_nextA : Nat) (p_low : Int) (p_high : Int) (p_seeds : Nat → Int) (p_seedLows : Nat → Int) : Option (Int × (Nat → Int) × (Nat → Int) × (Nat → Int) × Int × Int × Int × (Nat → Int) × (Nat → Int) × (Nat → Int) × (Nat → Int) × (Nat → Int) × (Nat → Int) × Int × (Nat → Int) × Nat × (Nat → Int) × Nat × Int × Int × (Nat → Int) × (Nat → Int)) :=
  (m_X3_renew b_spellingsOf b_spellingRows b_spellingLengths b_spellingPrices b_words b_wordSounds b_wordKinds b_wordClasses b_counts b_endings b_endingSounds b_endingClasses b_endingPrices b_prices b_stepCosts r_fixedValues r_heads r_rests r_known r_total r_length r_begins r_ends r_entries r_costs s_length s_letters s_breaks s_fixed v_values v_lettersRead v_columns p_now p_nowA p_next p_nextA p_low p_high p_seeds p_seedLows).bind fun (r_fixedValues_4, r_heads_4, r_rests_4, r_known_4, r_total_4, r_length_4, r_begins_4, r_ends_4, r_entries_4, r_costs_4, v_values_4, v_lettersRead_4, v_columns_4, p_now_4, p_nowA_4, p_next_4, p_nextA_4, p_low_4, p_high_4, p_seeds_4, p_seedLows_4) =>
  gd (inI r_total_4) <|
  if r_total_4 < 268435456 then
    some (r_total_4, r_fixedValues_4, r_heads_4, r_rests_4, r_known_4, r_total_4, r_length_4, r_begins_4, r_ends_4, r_entries_4, r_costs_4, v_values_4, v_lettersRead_4, v_columns_4, p_now_4, p_nowA_4, p_next_4, p_nextA_4, p_low_4, p_high_4, p_seeds_4, p_seedLows_4)
  else
    some ((-1000000), r_fixedValues_4, r_heads_4, r_rests_4, r_known_4, r_total_4, r_length_4, r_begins_4, r_ends_4, r_entries_4, r_costs_4, v_values_4, v_lettersRead_4, v_columns_4, p_now_4, p_nowA_4, p_next_4, p_nextA_4, p_low_4, p_high_4, p_seeds_4, p_seedLows_4)
def m_X8_parts (b_spellingsOf : Nat → Int) (b_spellingRows : Nat → Int) (b_spellingLengths : Nat → Int) (b_spellingPrices : Nat → Int) (b_words : Int) (b_wordSounds : Nat → Int) (b_wordKinds : Nat → Int) (b_wordClasses : Nat → Int) (b_counts : Nat → Int) (b_endings : Int) (b_endingSounds : Nat → Int) (b_endingClasses : Nat → Int) (b_endingPrices : Nat → Int) (b_prices : Nat → Int) (b_stepCosts : Nat → Int) (r_fixedValues : Nat → Int) (r_heads : Nat → Int) (r_rests : Nat → Int) (r_known : Int) (r_total : Int) (r_length : Int) (r_begins : Nat → Int) (r_ends : Nat → Int) (r_entries : Nat → Int) (r_costs : Nat → Int) (s_length : Int) (s_letters : Nat → Int) (s_breaks : Nat → Int) (s_fixed : Nat → Int) (v_values : Nat → Int) (v_lettersRead : Nat → Int) (v_columns : Int) (p_now : Nat → Int) (p_nowA : Nat) (p_next : Nat → Int) (p_nextA : Nat) (p_low : Int) (p_high : Int) (p_seeds : Nat → Int) (p_seedLows : Nat → Int) : Option (Int × (Nat → Int) × (Nat → Int) × (Nat → Int) × Int × Int × Int × (Nat → Int) × (Nat → Int) × (Nat → Int) × (Nat → Int) × (Nat → Int) × (Nat → Int) × Int × (Nat → Int) × Nat × (Nat → Int) × Nat × Int × Int × (Nat → Int) × (Nat → Int)) :=
  (m_X3_renew b_spellingsOf b_spellingRows b_spellingLengths b_spellingPrices b_words b_wordSounds b_wordKinds b_wordClasses b_counts b_endings b_endingSounds b_endingClasses b_endingPrices b_prices b_stepCosts r_fixedValues r_heads r_rests r_known r_total r_length r_begins r_ends r_entries r_costs s_length s_letters s_breaks s_fixed v_values v_lettersRead v_columns p_now p_nowA p_next p_nextA p_low p_high p_seeds p_seedLows).bind fun (r_fixedValues_4, r_heads_4, r_rests_4, r_known_4, r_total_4, r_length_4, r_begins_4, r_ends_4, r_entries_4, r_costs_4, v_values_4, v_lettersRead_4, v_columns_4, p_now_4, p_nowA_4, p_next_4, p_nextA_4, p_low_4, p_high_4, p_seeds_4, p_seedLows_4) =>
  some (r_length_4, r_fixedValues_4, r_heads_4, r_rests_4, r_known_4, r_total_4, r_length_4, r_begins_4, r_ends_4, r_entries_4, r_costs_4, v_values_4, v_lettersRead_4, v_columns_4, p_now_4, p_nowA_4, p_next_4, p_nextA_4, p_low_4, p_high_4, p_seeds_4, p_seedLows_4)
def m_X8_lineChanged (o_leadsKnown : Int) (o_listedPart : Int) (r_known : Int) : Option (Int × Int × Int) :=
  (m_X3_forget r_known).bind fun r_known_4 =>
  (m_X2_forget o_leadsKnown o_listedPart).bind fun (o_leadsKnown_11, o_listedPart_11) =>
  some (o_leadsKnown_11, o_listedPart_11, r_known_4)
def m_X8_bookChanged (o_leadsKnown : Int) (o_listedPart : Int) (r_known : Int) (v_columns : Int) : Option (Int × Int × Int × Int) :=
  (m_X5_forget v_columns).bind fun v_columns_4 =>
  (m_X8_lineChanged o_leadsKnown o_listedPart r_known).bind fun (o_leadsKnown_8, o_listedPart_8, r_known_8) =>
  some (o_leadsKnown_8, o_listedPart_8, r_known_8, v_columns_4)
def m_X8_take (a_kept : Int) (b_spellingsOf : Nat → Int) (b_spellingRows : Nat → Int) (b_spellingLengths : Nat → Int) (b_spellingPrices : Nat → Int) (b_words : Int) (b_wordSounds : Nat → Int) (b_wordKinds : Nat → Int) (b_wordClasses : Nat → Int) (b_counts : Nat → Int) (b_endings : Int) (b_endingSounds : Nat → Int) (b_endingClasses : Nat → Int) (b_endingPrices : Nat → Int) (b_prices : Nat → Int) (b_stepPrices : Nat → Int) (b_pairsOf : Nat → Int) (b_stepCosts : Nat → Int) (o_leadsKnown : Int) (o_listedPart : Int) (r_fixedValues : Nat → Int) (r_heads : Nat → Int) (r_rests : Nat → Int) (r_known : Int) (r_total : Int) (r_length : Int) (r_begins : Nat → Int) (r_ends : Nat → Int) (r_entries : Nat → Int) (r_costs : Nat → Int) (s_length : Int) (s_letters : Nat → Int) (s_breaks : Nat → Int) (s_fixed : Nat → Int) (v_values : Nat → Int) (v_lettersRead : Nat → Int) (v_columns : Int) (p_now : Nat → Int) (p_nowA : Nat) (p_next : Nat → Int) (p_nextA : Nat) (p_low : Int) (p_high : Int) (p_seeds : Nat → Int) (p_seedLows : Nat → Int) (t_entries : Nat → Int) (t_lengths : Nat → Int) (t_kept : Int) : Option (Int × Int × (Nat → Int) × (Nat → Int) × (Nat → Int) × (Nat → Int) × Int × Int × (Nat → Int) × (Nat → Int) × (Nat → Int) × Int × Int × Int × (Nat → Int) × (Nat → Int) × (Nat → Int) × (Nat → Int) × Int × (Nat → Int) × (Nat → Int) × (Nat → Int) × (Nat → Int) × Int × (Nat → Int) × Nat × (Nat → Int) × Nat × Int × Int × (Nat → Int) × (Nat → Int) × (Nat → Int) × (Nat → Int) × Int) :=
  (m_X3_renew b_spellingsOf b_spellingRows b_spellingLengths b_spellingPrices b_words b_wordSounds b_wordKinds b_wordClasses b_counts b_endings b_endingSounds b_endingClasses b_endingPrices b_prices b_stepCosts r_fixedValues r_heads r_rests r_known r_total r_length r_begins r_ends r_entries r_costs s_length s_letters s_breaks s_fixed v_values v_lettersRead v_columns p_now p_nowA p_next p_nextA p_low p_high p_seeds p_seedLows).bind fun (r_fixedValues_4, r_heads_4, r_rests_4, r_known_4, r_total_4, r_length_4, r_begins_4, r_ends_4, r_entries_4, r_costs_4, v_values_4, v_lettersRead_4, v_columns_4, p_now_4, p_nowA_4, p_next_4, p_nextA_4, p_low_4, p_high_4, p_seeds_4, p_seedLows_4) =>
  gd (inI r_length_4) <|
  if r_length_4 = 0 then
    some ((-1), a_kept, b_counts, b_stepPrices, b_pairsOf, b_stepCosts, o_leadsKnown, o_listedPart, r_fixedValues_4, r_heads_4, r_rests_4, r_known_4, r_total_4, r_length_4, r_begins_4, r_ends_4, r_entries_4, r_costs_4, s_length, s_breaks, s_fixed, v_values_4, v_lettersRead_4, v_columns_4, p_now_4, p_nowA_4, p_next_4, p_nextA_4, p_low_4, p_high_4, p_seeds_4, p_seedLows_4, t_entries, t_lengths, t_kept)
  else
    gd (inI t_kept) <|
    if t_kept < 40 then
      (m_X7_keep r_length_4 t_entries t_lengths t_kept r_entries_4 36).bind fun (t_entries_51, t_lengths_51, t_kept_51) =>
      (m_X1_learn 0 r_length_4 1 b_wordKinds b_counts b_stepPrices b_pairsOf b_stepCosts r_entries_4 36).bind fun (b_counts_68, b_stepPrices_68, b_pairsOf_68, b_stepCosts_68) =>
      (m_X4_clear s_length s_breaks s_fixed).bind fun (s_length_75, s_breaks_75, s_fixed_75) =>
      (m_X0_forget a_kept).bind fun a_kept_82 =>
      (m_X8_bookChanged o_leadsKnown o_listedPart r_known_4 v_columns_4).bind fun (o_leadsKnown_86, o_listedPart_86, r_known_86, v_columns_86) =>
      some (r_length_4, a_kept_82, b_counts_68, b_stepPrices_68, b_pairsOf_68, b_stepCosts_68, o_leadsKnown_86, o_listedPart_86, r_fixedValues_4, r_heads_4, r_rests_4, r_known_86, r_total_4, r_length_4, r_begins_4, r_ends_4, r_entries_4, r_costs_4, s_length_75, s_breaks_75, s_fixed_75, v_values_4, v_lettersRead_4, v_columns_86, p_now_4, p_nowA_4, p_next_4, p_nextA_4, p_low_4, p_high_4, p_seeds_4, p_seedLows_4, t_entries_51, t_lengths_51, t_kept_51)
    else
      some ((-1), a_kept, b_counts, b_stepPrices, b_pairsOf, b_stepCosts, o_leadsKnown, o_listedPart, r_fixedValues_4, r_heads_4, r_rests_4, r_known_4, r_total_4, r_length_4, r_begins_4, r_ends_4, r_entries_4, r_costs_4, s_length, s_breaks, s_fixed, v_values_4, v_lettersRead_4, v_columns_4, p_now_4, p_nowA_4, p_next_4, p_nextA_4, p_low_4, p_high_4, p_seeds_4, p_seedLows_4, t_entries, t_lengths, t_kept)
def m_X8_unlearn (b_wordKinds : Nat → Int) (b_counts : Nat → Int) (b_stepPrices : Nat → Int) (b_pairsOf : Nat → Int) (b_stepCosts : Nat → Int) (o_leadsKnown : Int) (o_listedPart : Int) (r_known : Int) (v_columns : Int) (t_entries : Nat → Int) (t_lengths : Nat → Int) (t_kept : Int) : Option (Int × (Nat → Int) × (Nat → Int) × (Nat → Int) × (Nat → Int) × Int × Int × Int × Int × Int) :=
  gd (inI t_kept) <|
  if t_kept = 0 then
    some ((-1), b_counts, b_stepPrices, b_pairsOf, b_stepCosts, o_leadsKnown, o_listedPart, r_known, v_columns, t_kept)
  else
    vl (t_kept - 1) fun t_kept_22 =>
    gd (0 ≤ t_kept_22 ∧ t_kept_22 < 40) <|
    (m_X1_learn (t_kept_22 * 36) (t_lengths (Int.toNat t_kept_22)) (-1) b_wordKinds b_counts b_stepPrices b_pairsOf b_stepCosts t_entries 1440).bind fun (b_counts_62, b_stepPrices_62, b_pairsOf_62, b_stepCosts_62) =>
    (m_X8_bookChanged o_leadsKnown o_listedPart r_known v_columns).bind fun (o_leadsKnown_66, o_listedPart_66, r_known_66, v_columns_66) =>
    some (t_kept_22, b_counts_62, b_stepPrices_62, b_pairsOf_62, b_stepCosts_62, o_leadsKnown_66, o_listedPart_66, r_known_66, v_columns_66, t_kept_22)
def m_X9_thrown (m_code : Int) : Option (Int) :=
  some m_code
def m_X9_fail (m_code : Int) : Option (Int × Int) :=
  some (0, 1)
def m_X9_changed (m_isRead : Int) (m_isMade : Int) : Option (Int × Int) :=
  some (0, 0)
def m_X9_piece (x0 : Int) (x2 : Int) (x3 : Int) : Option (Int) :=
  gd (inL x0) <|
  gd (0 ≤ (x2 * x3) ∧ (x2 * x3) < 64) <|
  gd (0 ≤ x2 ∧ x2 < 64) <|
  some (zland (x0 / 2 ^ Int.toNat (x2 * x3)) ((1 * 2 ^ Int.toNat x2) - 1))
def m_X9_sizeOf_2 (x0 : Int) (x2 : Int) (x3 : Int) : Option (Nat × (Int)) :=
  gd (inI (x2 * x3)) <|
  if 60 ≤ (x2 * x3) then
    some (1, x3)
  else
    (m_X9_piece x0 x2 x3).bind fun r_13 =>
    gd (inI r_13) <|
    if r_13 = 0 then
      some (1, x3)
    else
      vl (x3 + 1) fun x3_19 =>
      some (0, x3_19)
def m_X9_sizeOf (x0 : Int) (x2 : Int) : Option (Int) :=
  (zloop (fun a => m_X9_sizeOf_2 x0 x2 a) FU 0).bind fun (t_2, x3_2) =>
  some x3_2
def m_X9_isRow_46 (x0 : Int) (x2 : Int) (x4 : Int) (x5 : Int) (x6 : Int) (x7 : Int) : Option (Nat × (Int × Int)) :=
  gd (inI x6) <|
  if x6 = 0 then
    some (1, (x6, x7))
  else
    gd (inI x7) <|
    gd (inI x5) <|
    if x5 ≤ x7 then
      some (1, (x6, x7))
    else
      (m_X9_piece x0 x2 x7).bind fun r_62 =>
      gd (inI r_62) <|
      gd (inI x4) <|
      if x4 < r_62 then
        vl (x7 + 1) fun x7_77 =>
        some (0, (0, x7_77))
      else
        vl (x7 + 1) fun x7_77_v2 =>
        some (0, (1, x7_77_v2))
def m_X9_isRow_41 (x0 : Int) (x2 : Int) (x4 : Int) (x5 : Int) (t0 : Int) : Option (Int) :=
  (zloop (fun a => m_X9_isRow_46 x0 x2 x4 x5 a.1 a.2) FU (t0, 0)).bind fun (t_46, x6_46, x7_46) =>
  gd (x6_46 = 0 ∨ x6_46 = 1) <|
  some x6_46
def m_X9_isRow_40 (x0 : Int) (x2 : Int) (x4 : Int) (x5 : Int) : Option (Int) :=
  m_X9_isRow_41 x0 x2 x4 x5 0
def m_X9_isRow (x0 : Int) (x2 : Int) (x3 : Int) (x4 : Int) : Option (Int) :=
  (m_X9_sizeOf x0 x2).bind fun r_2 =>
  gd (inL x0) <|
  if x0 ≤ 0 then
    m_X9_isRow_40 x0 x2 x4 r_2
  else
    gd (inI r_2) <|
    if r_2 < 1 then
      m_X9_isRow_40 x0 x2 x4 r_2
    else
      gd (inI x3) <|
      if x3 < r_2 then
        m_X9_isRow_40 x0 x2 x4 r_2
      else
        gd (0 ≤ (x2 * r_2) ∧ (x2 * r_2) < 64) <|
        gd (inL (x0 / 2 ^ Int.toNat (x2 * r_2))) <|
        if (x0 / 2 ^ Int.toNat (x2 * r_2)) = 0 then
          m_X9_isRow_41 x0 x2 x4 r_2 1
        else
          m_X9_isRow_40 x0 x2 x4 r_2
def m_X9_spelling_38 (m_code : Int) (m_spellMany : Nat → Int) (m_spellPrice : Nat → Int) (m_spell : Nat → Int) (m_isRead : Int) (m_isMade : Int) : Option (Int × Int × (Nat → Int) × (Nat → Int) × (Nat → Int) × Int × Int) :=
  (m_X9_fail m_code).bind fun (r_39, m_code_39) =>
  some (r_39, m_code_39, m_spellMany, m_spellPrice, m_spell, m_isRead, m_isMade)
def m_X9_spelling_63 (x1 : Int) (x2 : Int) (x4 : Int) (x5 : Int) (x6 : Int) (m_code : Int) (m_spellMany : Nat → Int) (m_spellPrice : Nat → Int) (m_spell : Nat → Int) (m_isRead : Int) (m_isMade : Int) : Option (Nat × (Int × Int)) :=
  gd (0 ≤ x1 ∧ x1 < 50) <|
  gd (inI x6) <|
  gd (inI (m_spellMany (Int.toNat x1))) <|
  if (m_spellMany (Int.toNat x1)) ≤ x6 then
    some (1, (x5, x6))
  else
    gd (0 ≤ ((3 * x1) + x6) ∧ ((3 * x1) + x6) < 150) <|
    gd (inL (m_spell (Int.toNat ((3 * x1) + x6)))) <|
    gd (inL x2) <|
    if (m_spell (Int.toNat ((3 * x1) + x6))) = x2 then
      vl (x6 + 1) fun x6_93_v2 =>
      some (0, (1, x6_93_v2))
    else
      vl (x6 + 1) fun x6_93 =>
      some (0, (x5, x6_93))
def m_X9_spelling_58 (x1 : Int) (x2 : Int) (x4 : Int) (t0 : Int) (m_code : Int) (m_spellMany : Nat → Int) (m_spellPrice : Nat → Int) (m_spell : Nat → Int) (m_isRead : Int) (m_isMade : Int) : Option (Int × Int × (Nat → Int) × (Nat → Int) × (Nat → Int) × Int × Int) :=
  (zloop (fun a => m_X9_spelling_63 x1 x2 x4 a.1 a.2 m_code m_spellMany m_spellPrice m_spell m_isRead m_isMade) FU (t0, 0)).bind fun (t_63, x5_63, x6_63) =>
  gd (inI x5_63) <|
  if x5_63 = 0 then
    gd (0 ≤ x1 ∧ x1 < 50) <|
    gd (0 ≤ ((3 * x1) + (m_spellMany (Int.toNat x1))) ∧ ((3 * x1) + (m_spellMany (Int.toNat x1))) < 150) <|
    vl (uz m_spell (Int.toNat ((3 * x1) + (m_spellMany (Int.toNat x1)))) x2) fun m_spell_121 =>
    gd (0 ≤ x1 ∧ x1 < 50) <|
    gd (0 ≤ ((3 * x1) + (m_spellMany (Int.toNat x1))) ∧ ((3 * x1) + (m_spellMany (Int.toNat x1))) < 150) <|
    vl (uz m_spellPrice (Int.toNat ((3 * x1) + (m_spellMany (Int.toNat x1)))) x4) fun m_spellPrice_138 =>
    gd (0 ≤ x1 ∧ x1 < 50) <|
    gd (0 ≤ x1 ∧ x1 < 50) <|
    vl (uz m_spellMany (Int.toNat x1) ((m_spellMany (Int.toNat x1)) + 1)) fun m_spellMany_148 =>
    (m_X9_changed m_isRead m_isMade).bind fun (m_isRead_150, m_isMade_150) =>
    gd (0 ≤ x1 ∧ x1 < 50) <|
    some ((m_spellMany_148 (Int.toNat x1)), m_code, m_spellMany_148, m_spellPrice_138, m_spell_121, m_isRead_150, m_isMade_150)
  else
    some ((-1), m_code, m_spellMany, m_spellPrice, m_spell, m_isRead, m_isMade)
def m_X9_spelling (x1 : Int) (x2 : Int) (x4 : Int) (m_code : Int) (m_spellMany : Nat → Int) (m_spellPrice : Nat → Int) (m_spell : Nat → Int) (m_isRead : Int) (m_isMade : Int) : Option (Int × Int × (Nat → Int) × (Nat → Int) × (Nat → Int) × Int × Int) :=
  gd (inI x1) <|
  if x1 < 0 then
    m_X9_spelling_38 0 m_spellMany m_spellPrice m_spell m_isRead m_isMade
  else
    if 50 ≤ x1 then
      m_X9_spelling_38 0 m_spellMany m_spellPrice m_spell m_isRead m_isMade
    else
      (m_X9_isRow x2 5 4 26).bind fun r_20 =>
      gd (inI r_20) <|
      if r_20 = 0 then
        m_X9_spelling_38 0 m_spellMany m_spellPrice m_spell m_isRead m_isMade
      else
        gd (inI x4) <|
        if x4 < 0 then
          m_X9_spelling_38 0 m_spellMany m_spellPrice m_spell m_isRead m_isMade
        else
          if x4 ≤ 40 then
            gd (0 ≤ x1 ∧ x1 < 50) <|
            gd (inI (m_spellMany (Int.toNat x1))) <|
            if (m_spellMany (Int.toNat x1)) = 3 then
              m_X9_spelling_58 x1 x2 x4 1 0 m_spellMany m_spellPrice m_spell m_isRead m_isMade
            else
              m_X9_spelling_58 x1 x2 x4 0 0 m_spellMany m_spellPrice m_spell m_isRead m_isMade
          else
            m_X9_spelling_38 0 m_spellMany m_spellPrice m_spell m_isRead m_isMade
def m_X9_word_55 (m_code : Int) (m_sounds : Nat → Int) (m_signs : Nat → Int) (m_kind : Nat → Int) (m_itsClass : Nat → Int) (m_words : Int) (m_isRead : Int) (m_isMade : Int) : Option (Int × Int × (Nat → Int) × (Nat → Int) × (Nat → Int) × (Nat → Int) × Int × Int × Int) :=
  (m_X9_fail m_code).bind fun (r_56, m_code_56) =>
  some (r_56, m_code_56, m_sounds, m_signs, m_kind, m_itsClass, m_words, m_isRead, m_isMade)
def m_X9_word (x1 : Int) (x3 : Int) (x5 : Int) (x6 : Int) (m_code : Int) (m_sounds : Nat → Int) (m_signs : Nat → Int) (m_kind : Nat → Int) (m_itsClass : Nat → Int) (m_words : Int) (m_isRead : Int) (m_isMade : Int) : Option (Int × Int × (Nat → Int) × (Nat → Int) × (Nat → Int) × (Nat → Int) × Int × Int × Int) :=
  (m_X9_isRow x1 6 6 50).bind fun r_12 =>
  gd (inI r_12) <|
  if r_12 = 0 then
    m_X9_word_55 0 m_sounds m_signs m_kind m_itsClass m_words m_isRead m_isMade
  else
    (m_X9_isRow x3 14 4 16383).bind fun r_25 =>
    gd (inI r_25) <|
    if r_25 = 0 then
      m_X9_word_55 0 m_sounds m_signs m_kind m_itsClass m_words m_isRead m_isMade
    else
      gd (inI x5) <|
      if x5 < 0 then
        m_X9_word_55 0 m_sounds m_signs m_kind m_itsClass m_words m_isRead m_isMade
      else
        if 7 < x5 then
          m_X9_word_55 0 m_sounds m_signs m_kind m_itsClass m_words m_isRead m_isMade
        else
          gd (inI x6) <|
          if x6 < (-1) then
            m_X9_word_55 0 m_sounds m_signs m_kind m_itsClass m_words m_isRead m_isMade
          else
            if x6 ≤ 5 then
              gd (inI m_words) <|
              if m_words = 60 then
                some ((-1), 0, m_sounds, m_signs, m_kind, m_itsClass, m_words, m_isRead, m_isMade)
              else
                gd (0 ≤ m_words ∧ m_words < 60) <|
                vl (uz m_sounds (Int.toNat m_words) x1) fun m_sounds_80 =>
                gd (0 ≤ m_words ∧ m_words < 60) <|
                vl (uz m_signs (Int.toNat m_words) x3) fun m_signs_90 =>
                gd (0 ≤ m_words ∧ m_words < 60) <|
                vl (uz m_kind (Int.toNat m_words) x5) fun m_kind_101 =>
                gd (0 ≤ m_words ∧ m_words < 60) <|
                vl (uz m_itsClass (Int.toNat m_words) x6) fun m_itsClass_112 =>
                vl (m_words + 1) fun m_words_120 =>
                (m_X9_changed m_isRead m_isMade).bind fun (m_isRead_124, m_isMade_124) =>
                some ((m_words_120 - 1), 0, m_sounds_80, m_signs_90, m_kind_101, m_itsClass_112, m_words_120, m_isRead_124, m_isMade_124)
            else
              m_X9_word_55 0 m_sounds m_signs m_kind m_itsClass m_words m_isRead m_isMade
def m_X9_ending_52 (m_code : Int) (m_endSounds : Nat → Int) (m_endSign : Nat → Int) (m_endClass : Nat → Int) (m_endPrice : Nat → Int) (m_endings : Int) (m_isRead : Int) (m_isMade : Int) : Option (Int × Int × (Nat → Int) × (Nat → Int) × (Nat → Int) × (Nat → Int) × Int × Int × Int) :=
  (m_X9_fail m_code).bind fun (r_53, m_code_53) =>
  some (r_53, m_code_53, m_endSounds, m_endSign, m_endClass, m_endPrice, m_endings, m_isRead, m_isMade)
def m_X9_ending (x1 : Int) (x3 : Int) (x4 : Int) (x5 : Int) (m_code : Int) (m_endSounds : Nat → Int) (m_endSign : Nat → Int) (m_endClass : Nat → Int) (m_endPrice : Nat → Int) (m_endings : Int) (m_isRead : Int) (m_isMade : Int) : Option (Int × Int × (Nat → Int) × (Nat → Int) × (Nat → Int) × (Nat → Int) × Int × Int × Int) :=
  (m_X9_isRow x1 6 3 50).bind fun r_11 =>
  gd (inI r_11) <|
  if r_11 = 0 then
    m_X9_ending_52 0 m_endSounds m_endSign m_endClass m_endPrice m_endings m_isRead m_isMade
  else
    gd (inI x3) <|
    if x3 < 1 then
      m_X9_ending_52 0 m_endSounds m_endSign m_endClass m_endPrice m_endings m_isRead m_isMade
    else
      if 16383 < x3 then
        m_X9_ending_52 0 m_endSounds m_endSign m_endClass m_endPrice m_endings m_isRead m_isMade
      else
        gd (inI x4) <|
        if x4 < 0 then
          m_X9_ending_52 0 m_endSounds m_endSign m_endClass m_endPrice m_endings m_isRead m_isMade
        else
          if 5 < x4 then
            m_X9_ending_52 0 m_endSounds m_endSign m_endClass m_endPrice m_endings m_isRead m_isMade
          else
            gd (inI x5) <|
            if x5 < 0 then
              m_X9_ending_52 0 m_endSounds m_endSign m_endClass m_endPrice m_endings m_isRead m_isMade
            else
              if x5 ≤ 60 then
                gd (inI m_endings) <|
                if m_endings = 8 then
                  some ((-1), 0, m_endSounds, m_endSign, m_endClass, m_endPrice, m_endings, m_isRead, m_isMade)
                else
                  gd (0 ≤ m_endings ∧ m_endings < 8) <|
                  vl (uz m_endSounds (Int.toNat m_endings) x1) fun m_endSounds_77 =>
                  gd (0 ≤ m_endings ∧ m_endings < 8) <|
                  vl (uz m_endSign (Int.toNat m_endings) x3) fun m_endSign_87 =>
                  gd (0 ≤ m_endings ∧ m_endings < 8) <|
                  vl (uz m_endClass (Int.toNat m_endings) x4) fun m_endClass_98 =>
                  gd (0 ≤ m_endings ∧ m_endings < 8) <|
                  vl (uz m_endPrice (Int.toNat m_endings) x5) fun m_endPrice_109 =>
                  vl (m_endings + 1) fun m_endings_117 =>
                  (m_X9_changed m_isRead m_isMade).bind fun (m_isRead_121, m_isMade_121) =>
                  some ((m_endings_117 - 1), 0, m_endSounds_77, m_endSign_87, m_endClass_98, m_endPrice_109, m_endings_117, m_isRead_121, m_isMade_121)
              else
                m_X9_ending_52 0 m_endSounds m_endSign m_endClass m_endPrice m_endings m_isRead m_isMade
def m_X9_price_25 (m_code : Int) (m_slip : Int) (m_guess : Int) (m_base : Int) (m_isRead : Int) (m_isMade : Int) : Option (Int × Int × Int × Int × Int × Int × Int) :=
  (m_X9_fail m_code).bind fun (r_26, m_code_26) =>
  some (r_26, m_code_26, m_slip, m_guess, m_base, m_isRead, m_isMade)
def m_X9_price_88 (x3 : Int) (m_code : Int) (m_slip : Int) (m_guess : Int) (m_base : Int) (m_isRead : Int) (m_isMade : Int) : Option (Int × Int × Int × Int × Int × Int × Int) :=
  (m_X9_changed m_isRead m_isMade).bind fun (m_isRead_89, m_isMade_89) =>
  some (x3, m_code, m_slip, m_guess, m_base, m_isRead_89, m_isMade_89)
def m_X9_price_57 (x1 : Int) (x2 : Int) (t0 : Int) (m_code : Int) (m_slip : Int) (m_guess : Int) (m_base : Int) (m_isRead : Int) (m_isMade : Int) : Option (Int × Int × Int × Int × Int × Int × Int) :=
  gd (inI x1) <|
  if x1 = 0 then
    m_X9_price_88 t0 m_code x2 m_guess m_base m_isRead m_isMade
  else
    if x1 = 1 then
      m_X9_price_88 t0 m_code m_slip x2 m_base m_isRead m_isMade
    else
      m_X9_price_88 t0 m_code m_slip m_guess x2 m_isRead m_isMade
def m_X9_price (x1 : Int) (x2 : Int) (m_code : Int) (m_slip : Int) (m_guess : Int) (m_base : Int) (m_isRead : Int) (m_isMade : Int) : Option (Int × Int × Int × Int × Int × Int × Int) :=
  gd (inI x1) <|
  if x1 < 0 then
    m_X9_price_25 0 m_slip m_guess m_base m_isRead m_isMade
  else
    if 2 < x1 then
      m_X9_price_25 0 m_slip m_guess m_base m_isRead m_isMade
    else
      gd (inI x2) <|
      if x2 < 0 then
        m_X9_price_25 0 m_slip m_guess m_base m_isRead m_isMade
      else
        if x2 ≤ 200 then
          if x1 = 0 then
            m_X9_price_57 x1 x2 m_slip 0 m_slip m_guess m_base m_isRead m_isMade
          else
            if x1 = 1 then
              m_X9_price_57 x1 x2 m_guess 0 m_slip m_guess m_base m_isRead m_isMade
            else
              m_X9_price_57 x1 x2 m_base 0 m_slip m_guess m_base m_isRead m_isMade
        else
          m_X9_price_25 0 m_slip m_guess m_base m_isRead m_isMade
def m_X9_step_35 (m_code : Int) (m_steps : Nat → Int) (m_isRead : Int) : Option (Int × Int × (Nat → Int) × Int) :=
  (m_X9_fail m_code).bind fun (r_36, m_code_36) =>
  some (r_36, m_code_36, m_steps, m_isRead)
def m_X9_step (x1 : Int) (x2 : Int) (x3 : Int) (m_code : Int) (m_steps : Nat → Int) (m_isRead : Int) : Option (Int × Int × (Nat → Int) × Int) :=
  gd (inI x1) <|
  if x1 < 0 then
    m_X9_step_35 0 m_steps m_isRead
  else
    if 9 ≤ x1 then
      m_X9_step_35 0 m_steps m_isRead
    else
      gd (inI x2) <|
      if x2 < 0 then
        m_X9_step_35 0 m_steps m_isRead
      else
        if 9 ≤ x2 then
          m_X9_step_35 0 m_steps m_isRead
        else
          gd (inI x3) <|
          if x3 < 0 then
            m_X9_step_35 0 m_steps m_isRead
          else
            if x3 ≤ 90 then
              gd (0 ≤ ((9 * x1) + x2) ∧ ((9 * x1) + x2) < 81) <|
              vl (m_steps (Int.toNat ((9 * x1) + x2))) fun x4_51 =>
              gd (0 ≤ ((9 * x1) + x2) ∧ ((9 * x1) + x2) < 81) <|
              vl (uz m_steps (Int.toNat ((9 * x1) + x2)) x3) fun m_steps_64 =>
              some (x4_51, 0, m_steps_64, 0)
            else
              m_X9_step_35 0 m_steps m_isRead
def m_X9_cell (x0 : Int) (x1 : Int) (x2 : Int) : Option (Int) :=
  some ((((((x0 * 60) + x1) * 9) + x2) + 1) * 37)
def m_X9_oneSound_2 (x1 : Int) (x2 : Int) (x3 : Int) (m_spellMany : Nat → Int) (m_spellPrice : Nat → Int) (m_spell : Nat → Int) (m_slip : Int) (m_n : Int) (m_line : Nat → Int) (m_reach : Nat → Int) (m_next : Nat → Int) : Option (Nat × (Int × (Nat → Int))) :=
  gd (inI x3) <|
  if 36 < x3 then
    some (1, (x3, m_next))
  else
    gd (0 ≤ x3 ∧ x3 < 37) <|
    vl (uz m_next (Int.toNat x3) 134217728) fun m_next_15 =>
    vl (x3 + 1) fun x3_16 =>
    some (0, (x3_16, m_next_15))
def m_X9_oneSound_105 (x1 : Int) (x2 : Int) (x3 : Int) (x4 : Int) (x5 : Int) (x7 : Int) (x8 : Int) (x9 : Int) (m_spellMany : Nat → Int) (m_spellPrice : Nat → Int) (m_spell : Nat → Int) (m_slip : Int) (m_n : Int) (m_line : Nat → Int) (m_reach : Nat → Int) (m_next : Nat → Int) : Option (Nat × (Int × Int)) :=
  gd (inI x9) <|
  gd (inI x7) <|
  if x7 ≤ x9 then
    some (1, (x8, x9))
  else
    gd (0 ≤ ((x1 + x3) + x9) ∧ ((x1 + x3) + x9) < 36) <|
    (m_X9_piece x5 5 x9).bind fun r_130 =>
    gd (inI (m_line (Int.toNat ((x1 + x3) + x9)))) <|
    gd (inI r_130) <|
    if (m_line (Int.toNat ((x1 + x3) + x9))) = r_130 then
      vl (x8 + 0) fun x8_142_v2 =>
      vl (x9 + 1) fun x9_144_v2 =>
      some (0, (x8_142_v2, x9_144_v2))
    else
      vl (x8 + 1) fun x8_142 =>
      vl (x9 + 1) fun x9_144 =>
      some (0, (x8_142, x9_144))
def m_X9_oneSound_51 (x1 : Int) (x2 : Int) (x3 : Int) (x4 : Int) (m_spellMany : Nat → Int) (m_spellPrice : Nat → Int) (m_spell : Nat → Int) (m_slip : Int) (m_n : Int) (m_line : Nat → Int) (m_reach : Nat → Int) (m_next : Nat → Int) : Option (Nat × (Int × (Nat → Int))) :=
  gd (0 ≤ x2 ∧ x2 < 50) <|
  gd (inI x4) <|
  gd (inI (m_spellMany (Int.toNat x2))) <|
  if (m_spellMany (Int.toNat x2)) ≤ x4 then
    some (1, (x4, m_next))
  else
    gd (0 ≤ ((3 * x2) + x4) ∧ ((3 * x2) + x4) < 150) <|
    vl (m_spell (Int.toNat ((3 * x2) + x4))) fun x5_73 =>
    (m_X9_sizeOf x5_73 5).bind fun r_78 =>
    gd (inI ((x1 + x3) + r_78)) <|
    gd (inI m_n) <|
    if ((x1 + x3) + r_78) ≤ m_n then
      (zloop (fun a => m_X9_oneSound_105 x1 x2 x3 x4 x5_73 r_78 a.1 a.2 m_spellMany m_spellPrice m_spell m_slip m_n m_line m_reach m_next) FU (0, 0)).bind fun (t_105, x8_105, x9_105) =>
      gd (inI x8_105) <|
      if x8_105 ≤ 1 then
        gd (0 ≤ (x3 + r_78) ∧ (x3 + r_78) < 37) <|
        gd (0 ≤ x3 ∧ x3 < 37) <|
        gd (0 ≤ ((3 * x2) + x4) ∧ ((3 * x2) + x4) < 150) <|
        gd (inI (m_next (Int.toNat (x3 + r_78)))) <|
        gd (inI (((m_reach (Int.toNat x3)) + (m_spellPrice (Int.toNat ((3 * x2) + x4)))) + (m_slip * x8_105))) <|
        gd (0 ≤ (x3 + r_78) ∧ (x3 + r_78) < 37) <|
        vl (uz m_next (Int.toNat (x3 + r_78)) (min (m_next (Int.toNat (x3 + r_78))) (((m_reach (Int.toNat x3)) + (m_spellPrice (Int.toNat ((3 * x2) + x4)))) + (m_slip * x8_105)))) fun m_next_205 =>
        vl (x4 + 1) fun x4_206 =>
        some (0, (x4_206, m_next_205))
      else
        vl (x4 + 1) fun x4_206_v2 =>
        some (0, (x4_206_v2, m_next))
    else
      vl (x4 + 1) fun x4_206_v3 =>
      some (0, (x4_206_v3, m_next))
def m_X9_oneSound_24 (x1 : Int) (x2 : Int) (x3 : Int) (m_spellMany : Nat → Int) (m_spellPrice : Nat → Int) (m_spell : Nat → Int) (m_slip : Int) (m_n : Int) (m_line : Nat → Int) (m_reach : Nat → Int) (m_next : Nat → Int) : Option (Nat × (Int × (Nat → Int))) :=
  gd (inI (x1 + x3)) <|
  gd (inI m_n) <|
  if m_n < (x1 + x3) then
    some (1, (x3, m_next))
  else
    gd (0 ≤ x3 ∧ x3 < 37) <|
    gd (inI (m_reach (Int.toNat x3))) <|
    if (m_reach (Int.toNat x3)) < 134217728 then
      (zloop (fun a => m_X9_oneSound_51 x1 x2 x3 a.1 m_spellMany m_spellPrice m_spell m_slip m_n m_line m_reach a.2) FU (0, m_next)).bind fun (t_51, x4_51, m_next_51) =>
      vl (x3 + 1) fun x3_212 =>
      some (0, (x3_212, m_next_51))
    else
      vl (x3 + 1) fun x3_212_v2 =>
      some (0, (x3_212_v2, m_next))
def m_X9_oneSound_220 (x3 : Int) (m_spellMany : Nat → Int) (m_spellPrice : Nat → Int) (m_spell : Nat → Int) (m_slip : Int) (m_n : Int) (m_line : Nat → Int) (m_reach : Nat → Int) (m_next : Nat → Int) : Option (Nat × (Int × (Nat → Int))) :=
  gd (inI x3) <|
  if 36 < x3 then
    some (1, (x3, m_reach))
  else
    gd (0 ≤ x3 ∧ x3 < 37) <|
    gd (0 ≤ x3 ∧ x3 < 37) <|
    vl (uz m_reach (Int.toNat x3) (m_next (Int.toNat x3))) fun m_reach_237 =>
    vl (x3 + 1) fun x3_238 =>
    some (0, (x3_238, m_reach_237))
def m_X9_oneSound (x1 : Int) (x2 : Int) (m_spellMany : Nat → Int) (m_spellPrice : Nat → Int) (m_spell : Nat → Int) (m_slip : Int) (m_n : Int) (m_line : Nat → Int) (m_reach : Nat → Int) (m_next : Nat → Int) : Option ((Nat → Int) × (Nat → Int)) :=
  (zloop (fun a => m_X9_oneSound_2 x1 x2 a.1 m_spellMany m_spellPrice m_spell m_slip m_n m_line m_reach a.2) FU (0, m_next)).bind fun (t_2, x3_2, m_next_2) =>
  (zloop (fun a => m_X9_oneSound_24 x1 x2 a.1 m_spellMany m_spellPrice m_spell m_slip m_n m_line m_reach a.2) FU (0, m_next_2)).bind fun (t_24, x3_24, m_next_24) =>
  (zloop (fun a => m_X9_oneSound_220 a.1 m_spellMany m_spellPrice m_spell m_slip m_n m_line a.2 m_next_24) FU (0, m_reach)).bind fun (t_220, x3_220, m_reach_220) =>
  some (m_reach_220, m_next_24)
def m_X9_keepRow_2 (x1 : Int) (x2 : Int) (m_table : Nat → Int) (m_reach : Nat → Int) : Option (Nat × (Int × (Nat → Int))) :=
  gd (inI x2) <|
  if 36 < x2 then
    some (1, (x2, m_table))
  else
    gd (0 ≤ x2 ∧ x2 < 37) <|
    gd (0 ≤ (x1 + x2) ∧ (x1 + x2) < 719280) <|
    vl (uz m_table (Int.toNat (x1 + x2)) (m_reach (Int.toNat x2))) fun m_table_21 =>
    vl (x2 + 1) fun x2_22 =>
    some (0, (x2_22, m_table_21))
def m_X9_keepRow (x1 : Int) (m_table : Nat → Int) (m_reach : Nat → Int) : Option ((Nat → Int)) :=
  (zloop (fun a => m_X9_keepRow_2 x1 a.1 a.2 m_reach) FU (0, m_table)).bind fun (t_2, x2_2, m_table_2) =>
  some m_table_2
def m_X9_makeTable_22 (x1 : Int) (x2 : Int) (x3 : Int) (m_spellMany : Nat → Int) (m_spellPrice : Nat → Int) (m_spell : Nat → Int) (m_sounds : Nat → Int) (m_endSounds : Nat → Int) (m_itsClass : Nat → Int) (m_endClass : Nat → Int) (m_words : Int) (m_endings : Int) (m_slip : Int) (m_n : Int) (m_line : Nat → Int) (m_table : Nat → Int) (m_reach : Nat → Int) (m_next : Nat → Int) : Option (Nat × (Int × (Nat → Int))) :=
  gd (inI x3) <|
  if 36 < x3 then
    some (1, (x3, m_reach))
  else
    if x3 = 0 then
      gd (0 ≤ x3 ∧ x3 < 37) <|
      vl (uz m_reach (Int.toNat x3) 0) fun m_reach_43_v2 =>
      vl (x3 + 1) fun x3_44_v2 =>
      some (0, (x3_44_v2, m_reach_43_v2))
    else
      gd (0 ≤ x3 ∧ x3 < 37) <|
      vl (uz m_reach (Int.toNat x3) 134217728) fun m_reach_43 =>
      vl (x3 + 1) fun x3_44 =>
      some (0, (x3_44, m_reach_43))
def m_X9_makeTable_52 (x1 : Int) (x2 : Int) (x3 : Int) (m_spellMany : Nat → Int) (m_spellPrice : Nat → Int) (m_spell : Nat → Int) (m_sounds : Nat → Int) (m_endSounds : Nat → Int) (m_itsClass : Nat → Int) (m_endClass : Nat → Int) (m_words : Int) (m_endings : Int) (m_slip : Int) (m_n : Int) (m_line : Nat → Int) (m_table : Nat → Int) (m_reach : Nat → Int) (m_next : Nat → Int) : Option (Nat × (Int × (Nat → Int) × (Nat → Int))) :=
  gd (0 ≤ x2 ∧ x2 < 60) <|
  (m_X9_sizeOf (m_sounds (Int.toNat x2)) 6).bind fun r_61 =>
  gd (inI x3) <|
  gd (inI r_61) <|
  if r_61 ≤ x3 then
    some (1, (x3, m_reach, m_next))
  else
    gd (0 ≤ x2 ∧ x2 < 60) <|
    (m_X9_piece (m_sounds (Int.toNat x2)) 6 x3).bind fun r_78 =>
    (m_X9_oneSound x1 (r_78 - 1) m_spellMany m_spellPrice m_spell m_slip m_n m_line m_reach m_next).bind fun (m_reach_83, m_next_83) =>
    vl (x3 + 1) fun x3_86 =>
    some (0, (x3_86, m_reach_83, m_next_83))
def m_X9_makeTable_133 (x1 : Int) (x2 : Int) (x3 : Int) (x4 : Int) (m_spellMany : Nat → Int) (m_spellPrice : Nat → Int) (m_spell : Nat → Int) (m_sounds : Nat → Int) (m_endSounds : Nat → Int) (m_itsClass : Nat → Int) (m_endClass : Nat → Int) (m_words : Int) (m_endings : Int) (m_slip : Int) (m_n : Int) (m_line : Nat → Int) (m_table : Nat → Int) (m_reach : Nat → Int) (m_next : Nat → Int) : Option (Nat × (Int × (Nat → Int))) :=
  gd (inI x4) <|
  if 36 < x4 then
    some (1, (x4, m_reach))
  else
    (m_X9_cell x1 x2 (-1)).bind fun r_153 =>
    gd (0 ≤ (r_153 + x4) ∧ (r_153 + x4) < 719280) <|
    gd (0 ≤ x4 ∧ x4 < 37) <|
    vl (uz m_reach (Int.toNat x4) (m_table (Int.toNat (r_153 + x4)))) fun m_reach_160 =>
    vl (x4 + 1) fun x4_161 =>
    some (0, (x4_161, m_reach_160))
def m_X9_makeTable_170 (x1 : Int) (x2 : Int) (x3 : Int) (x4 : Int) (m_spellMany : Nat → Int) (m_spellPrice : Nat → Int) (m_spell : Nat → Int) (m_sounds : Nat → Int) (m_endSounds : Nat → Int) (m_itsClass : Nat → Int) (m_endClass : Nat → Int) (m_words : Int) (m_endings : Int) (m_slip : Int) (m_n : Int) (m_line : Nat → Int) (m_table : Nat → Int) (m_reach : Nat → Int) (m_next : Nat → Int) : Option (Nat × (Int × (Nat → Int) × (Nat → Int))) :=
  gd (0 ≤ x3 ∧ x3 < 8) <|
  (m_X9_sizeOf (m_endSounds (Int.toNat x3)) 6).bind fun r_180 =>
  gd (inI x4) <|
  gd (inI r_180) <|
  if r_180 ≤ x4 then
    some (1, (x4, m_reach, m_next))
  else
    gd (0 ≤ x3 ∧ x3 < 8) <|
    (m_X9_piece (m_endSounds (Int.toNat x3)) 6 x4).bind fun r_198 =>
    (m_X9_oneSound x1 (r_198 - 1) m_spellMany m_spellPrice m_spell m_slip m_n m_line m_reach m_next).bind fun (m_reach_203, m_next_203) =>
    vl (x4 + 1) fun x4_206 =>
    some (0, (x4_206, m_reach_203, m_next_203))
def m_X9_makeTable_104 (x1 : Int) (x2 : Int) (x3 : Int) (m_spellMany : Nat → Int) (m_spellPrice : Nat → Int) (m_spell : Nat → Int) (m_sounds : Nat → Int) (m_endSounds : Nat → Int) (m_itsClass : Nat → Int) (m_endClass : Nat → Int) (m_words : Int) (m_endings : Int) (m_slip : Int) (m_n : Int) (m_line : Nat → Int) (m_table : Nat → Int) (m_reach : Nat → Int) (m_next : Nat → Int) : Option (Nat × (Int × (Nat → Int) × (Nat → Int) × (Nat → Int))) :=
  gd (inI x3) <|
  gd (inI m_endings) <|
  if m_endings ≤ x3 then
    some (1, (x3, m_table, m_reach, m_next))
  else
    gd (0 ≤ x3 ∧ x3 < 8) <|
    gd (0 ≤ x2 ∧ x2 < 60) <|
    gd (inI (m_endClass (Int.toNat x3))) <|
    gd (inI (m_itsClass (Int.toNat x2))) <|
    if (m_endClass (Int.toNat x3)) = (m_itsClass (Int.toNat x2)) then
      (zloop (fun a => m_X9_makeTable_133 x1 x2 x3 a.1 m_spellMany m_spellPrice m_spell m_sounds m_endSounds m_itsClass m_endClass m_words m_endings m_slip m_n m_line m_table a.2 m_next) FU (0, m_reach)).bind fun (t_133, x4_133, m_reach_133) =>
      (zloop (fun a => m_X9_makeTable_170 x1 x2 x3 a.1 m_spellMany m_spellPrice m_spell m_sounds m_endSounds m_itsClass m_endClass m_words m_endings m_slip m_n m_line m_table a.2.1 a.2.2) FU (0, m_reach_133, m_next)).bind fun (t_170, x4_170, m_reach_170, m_next_170) =>
      (m_X9_cell x1 x2 x3).bind fun r_216 =>
      (m_X9_keepRow r_216 m_table m_reach_170).bind fun m_table_219 =>
      vl (x3 + 1) fun x3_222 =>
      some (0, (x3_222, m_table_219, m_reach_170, m_next_170))
    else
      vl (x3 + 1) fun x3_222_v2 =>
      some (0, (x3_222_v2, m_table, m_reach, m_next))
def m_X9_makeTable_12 (x1 : Int) (x2 : Int) (m_spellMany : Nat → Int) (m_spellPrice : Nat → Int) (m_spell : Nat → Int) (m_sounds : Nat → Int) (m_endSounds : Nat → Int) (m_itsClass : Nat → Int) (m_endClass : Nat → Int) (m_words : Int) (m_endings : Int) (m_slip : Int) (m_n : Int) (m_line : Nat → Int) (m_table : Nat → Int) (m_reach : Nat → Int) (m_next : Nat → Int) : Option (Nat × (Int × (Nat → Int) × (Nat → Int) × (Nat → Int))) :=
  gd (inI x2) <|
  gd (inI m_words) <|
  if m_words ≤ x2 then
    some (1, (x2, m_table, m_reach, m_next))
  else
    (zloop (fun a => m_X9_makeTable_22 x1 x2 a.1 m_spellMany m_spellPrice m_spell m_sounds m_endSounds m_itsClass m_endClass m_words m_endings m_slip m_n m_line m_table a.2 m_next) FU (0, m_reach)).bind fun (t_22, x3_22, m_reach_22) =>
    (zloop (fun a => m_X9_makeTable_52 x1 x2 a.1 m_spellMany m_spellPrice m_spell m_sounds m_endSounds m_itsClass m_endClass m_words m_endings m_slip m_n m_line m_table a.2.1 a.2.2) FU (0, m_reach_22, m_next)).bind fun (t_52, x3_52, m_reach_52, m_next_52) =>
    (m_X9_cell x1 x2 (-1)).bind fun r_96 =>
    (m_X9_keepRow r_96 m_table m_reach_52).bind fun m_table_99 =>
    (zloop (fun a => m_X9_makeTable_104 x1 x2 a.1 m_spellMany m_spellPrice m_spell m_sounds m_endSounds m_itsClass m_endClass m_words m_endings m_slip m_n m_line a.2.1 a.2.2.1 a.2.2.2) FU (0, m_table_99, m_reach_52, m_next_52)).bind fun (t_104, x3_104, m_table_104, m_reach_104, m_next_104) =>
    vl (x2 + 1) fun x2_228 =>
    some (0, (x2_228, m_table_104, m_reach_104, m_next_104))
def m_X9_makeTable_2 (x1 : Int) (m_spellMany : Nat → Int) (m_spellPrice : Nat → Int) (m_spell : Nat → Int) (m_sounds : Nat → Int) (m_endSounds : Nat → Int) (m_itsClass : Nat → Int) (m_endClass : Nat → Int) (m_words : Int) (m_endings : Int) (m_slip : Int) (m_n : Int) (m_line : Nat → Int) (m_table : Nat → Int) (m_reach : Nat → Int) (m_next : Nat → Int) : Option (Nat × (Int × (Nat → Int) × (Nat → Int) × (Nat → Int))) :=
  gd (inI x1) <|
  gd (inI m_n) <|
  if m_n ≤ x1 then
    some (1, (x1, m_table, m_reach, m_next))
  else
    (zloop (fun a => m_X9_makeTable_12 x1 a.1 m_spellMany m_spellPrice m_spell m_sounds m_endSounds m_itsClass m_endClass m_words m_endings m_slip m_n m_line a.2.1 a.2.2.1 a.2.2.2) FU (0, m_table, m_reach, m_next)).bind fun (t_12, x2_12, m_table_12, m_reach_12, m_next_12) =>
    vl (x1 + 1) fun x1_234 =>
    some (0, (x1_234, m_table_12, m_reach_12, m_next_12))
def m_X9_makeTable (m_spellMany : Nat → Int) (m_spellPrice : Nat → Int) (m_spell : Nat → Int) (m_sounds : Nat → Int) (m_endSounds : Nat → Int) (m_itsClass : Nat → Int) (m_endClass : Nat → Int) (m_words : Int) (m_endings : Int) (m_slip : Int) (m_n : Int) (m_line : Nat → Int) (m_table : Nat → Int) (m_reach : Nat → Int) (m_next : Nat → Int) : Option ((Nat → Int) × (Nat → Int) × (Nat → Int)) :=
  (zloop (fun a => m_X9_makeTable_2 a.1 m_spellMany m_spellPrice m_spell m_sounds m_endSounds m_itsClass m_endClass m_words m_endings m_slip m_n m_line a.2.1 a.2.2.1 a.2.2.2) FU (0, m_table, m_reach, m_next)).bind fun (t_2, x1_2, m_table_2, m_reach_2, m_next_2) =>
  some (m_table_2, m_reach_2, m_next_2)
def m_X9_bitsOf_4 (x1 : Int) (x2 : Int) : Option (Nat × (Int × Int)) :=
  gd (inI x2) <|
  if x2 ≤ 0 then
    some (1, (x1, x2))
  else
    vl (x1 + 1) fun x1_8 =>
    vl (x2 / 2) fun x2_14 =>
    some (0, (x1_8, x2_14))
def m_X9_bitsOf (x0 : Int) : Option (Int) :=
  (zloop (fun a => m_X9_bitsOf_4 a.1 a.2) FU (0, x0)).bind fun (t_4, x1_4, x2_4) =>
  some x1_4
def m_X9_costOf_54 (x1 : Int) (x2 : Int) (x3 : Int) (x4 : Int) (m_itsClass : Nat → Int) (m_count : Nat → Int) (m_endClass : Nat → Int) (m_endPrice : Nat → Int) (m_guess : Int) (m_base : Int) (m_table : Nat → Int) : Option (Int) :=
  (m_X9_cell x1 x3 x4).bind fun r_62 =>
  gd (0 ≤ ((r_62 + x2) - x1) ∧ ((r_62 + x2) - x1) < 719280) <|
  vl (m_table (Int.toNat ((r_62 + x2) - x1))) fun x5_70 =>
  gd (inI x5_70) <|
  if x5_70 < 134217728 then
    gd (0 ≤ x3 ∧ x3 < 60) <|
    (m_X9_bitsOf (m_count (Int.toNat x3))).bind fun r_96 =>
    gd (inI x4) <|
    if x4 = (-1) then
      some (((m_base - (8 * r_96)) + 0) + x5_70)
    else
      gd (0 ≤ x4 ∧ x4 < 8) <|
      some (((m_base - (8 * r_96)) + (m_endPrice (Int.toNat x4))) + x5_70)
  else
    some 134217728
def m_X9_costOf (x1 : Int) (x2 : Int) (x3 : Int) (x4 : Int) (m_itsClass : Nat → Int) (m_count : Nat → Int) (m_endClass : Nat → Int) (m_endPrice : Nat → Int) (m_guess : Int) (m_base : Int) (m_table : Nat → Int) : Option (Int) :=
  gd (inI x3) <|
  if x3 = 60 then
    gd (inI x2) <|
    gd (inI (x1 + 1)) <|
    if x2 = (x1 + 1) then
      gd (inI x4) <|
      if x4 = (-1) then
        some m_guess
      else
        some 134217728
    else
      some 134217728
  else
    gd (inI x4) <|
    if x4 = (-1) then
      m_X9_costOf_54 x1 x2 x3 x4 m_itsClass m_count m_endClass m_endPrice m_guess m_base m_table
    else
      gd (0 ≤ x4 ∧ x4 < 8) <|
      gd (0 ≤ x3 ∧ x3 < 60) <|
      gd (inI (m_endClass (Int.toNat x4))) <|
      gd (inI (m_itsClass (Int.toNat x3))) <|
      if (m_endClass (Int.toNat x4)) = (m_itsClass (Int.toNat x3)) then
        m_X9_costOf_54 x1 x2 x3 x4 m_itsClass m_count m_endClass m_endPrice m_guess m_base m_table
      else
        some 134217728
def m_X9_kindOf (x1 : Int) (m_kind : Nat → Int) : Option (Int) :=
  gd (inI x1) <|
  if x1 = 60 then
    some 8
  else
    gd (0 ≤ x1 ∧ x1 < 60) <|
    some (m_kind (Int.toNat x1))
def m_X9_stepOf (x1 : Int) (x2 : Int) (m_steps : Nat → Int) (m_pairs : Nat → Int) : Option (Int) :=
  gd (inI x1) <|
  if x1 = 9 then
    some 0
  else
    gd (0 ≤ ((9 * x1) + x2) ∧ ((9 * x1) + x2) < 81) <|
    gd (0 ≤ ((9 * x1) + x2) ∧ ((9 * x1) + x2) < 81) <|
    (m_X9_bitsOf (m_pairs (Int.toNat ((9 * x1) + x2)))).bind fun r_33 =>
    some ((m_steps (Int.toNat ((9 * x1) + x2))) - (2 * r_33))
def m_X9_isLet_38 (x2 : Int) (x3 : Int) (m_n : Int) (m_breaks : Nat → Int) : Option (Nat × (Int)) :=
  gd (inI x3) <|
  gd (inI x2) <|
  if x2 ≤ x3 then
    some (1, x3)
  else
    gd (0 ≤ x3 ∧ x3 < 37) <|
    gd (inI (m_breaks (Int.toNat x3))) <|
    if (m_breaks (Int.toNat x3)) = 1 then
      some (2, x3)
    else
      vl (x3 + 1) fun x3_55 =>
      some (0, x3_55)
def m_X9_isLet_34 (x1 : Int) (x2 : Int) (m_n : Int) (m_breaks : Nat → Int) : Option (Int) :=
  vl (x1 + 1) fun x3_37 =>
  (zloop (fun a => m_X9_isLet_38 x2 a m_n m_breaks) FU x3_37).bind fun (t_38, x3_38) =>
  if t_38 = 1 then
    some 1
  else
    some 0
