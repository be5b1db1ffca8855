/-! the law's loop -/
set_option maxHeartbeats 4000000 in
theorem y_23 {k L : Nat} {x4 : Int} {a_ring : List zSv} {a_next : Int} {a_kept : Int} {b_spellingsOf : Nat → Int} {b_spellingRows : Nat → Int} {b_spellingLengths : Nat → Int} {b_spellingPrices : Nat → Int} {b_words : Int} {b_wordSounds : Nat → Int} {b_wordSigns : Nat → Int} {b_wordKinds : Nat → Int} {b_wordClasses : Nat → Int} {b_counts : Nat → Int} {b_endings : Int} {b_endingSounds : Nat → Int} {b_endingSigns : Nat → Int} {b_endingClasses : Nat → Int} {b_endingPrices : Nat → Int} {b_prices : Nat → Int} {b_stepPrices : Nat → Int} {b_pairsOf : Nat → Int} {b_stepCosts : Nat → Int} {o_tails : Nat → Int} {o_leads : Nat → Int} {o_leadsKnown : Int} {o_listedPart : Int} {o_length : Int} {o_entries : Nat → Int} {o_costs : Nat → Int} {r_fixedValues : Nat → Int} {r_heads : Nat → Int} {r_rests : Nat → Int} {r_known : Int} {r_total : Int} {r_length : Int} {r_begins : Nat → Int} {r_ends : Nat → Int} {r_entries : Nat → Int} {r_costs : Nat → Int} {s_length : Int} {s_letters : Nat → Int} {s_breaks : Nat → Int} {s_fixed : Nat → Int} {v_values : Nat → Int} {v_lettersRead : Nat → Int} {v_columns : Int} {p_now : Nat → Int} {p_nowA : Nat} {p_next : Nat → Int} {p_nextA : Nat} {p_low : Int} {p_high : Int} {p_seeds : Nat → Int} {p_seedLows : Nat → Int} {t_entries : Nat → Int} {t_lengths : Nat → Int} {t_kept : Int} {m_code : Int} {m_spellMany : Nat → Int} {m_spellPrice : Nat → Int} {m_spell : Nat → Int} {m_sounds : Nat → Int} {m_signs : Nat → Int} {m_endSounds : Nat → Int} {m_kind : Nat → Int} {m_itsClass : Nat → Int} {m_count : Nat → Int} {m_endSign : Nat → Int} {m_endClass : Nat → Int} {m_endPrice : Nat → Int} {m_words : Int} {m_endings : Int} {m_slip : Int} {m_guess : Int} {m_base : Int} {m_steps : Nat → Int} {m_pairs : Nat → Int} {m_n : Int} {m_fixedMany : Int} {m_line : Nat → Int} {m_breaks : Nat → Int} {m_fixedFrom : Nat → Int} {m_fixedTo : Nat → Int} {m_fixedWord : Nat → Int} {m_fixedEnding : Nat → Int} {m_acts : Int} {m_oldN : Nat → Int} {m_oldFixed : Nat → Int} {m_oldLine : Nat → Int} {m_oldBreaks : Nat → Int} {m_oldFrom : Nat → Int} {m_oldTo : Nat → Int} {m_oldWord : Nat → Int} {m_oldEnding : Nat → Int} {m_kept : Int} {m_keptMany : Nat → Int} {m_keptWord : Nat → Int} {m_keptKind : Nat → Int} {m_isRead : Int} {m_isMade : Int} {m_table : Nat → Int} {m_reach : Nat → Int} {m_next : Nat → Int} {m_rest : Nat → Int} {m_ahead : Nat → Int} {m_parts : Int} {m_total : Int} {m_partFrom : Nat → Int} {m_partTo : Nat → Int} {m_partWord : Nat → Int} {m_partEnding : Nat → Int} {m_found : Int} {m_from0 : Int} {m_kind0 : Int} {m_choiceWord : Nat → Int} {m_choiceEnding : Nat → Int} {m_choiceCost : Nat → Int} {m_choices : Int} {o0 : Nat → Int} {sc : Nat → Int} (hL : L ≤ 3584) (hsc : ∀ j, inI (sc j)) (hx : 7 * (k : Int) ≤ L) (hk0 : 7 * (k : Int) ≤ 3584) (h : SIM k x4 a_ring a_next a_kept b_spellingsOf b_spellingRows b_spellingLengths b_spellingPrices b_words b_wordSounds b_wordSigns b_wordKinds b_wordClasses b_counts b_endings b_endingSounds b_endingSigns b_endingClasses b_endingPrices b_prices b_stepPrices b_pairsOf b_stepCosts o_tails o_leads o_leadsKnown o_listedPart o_length o_entries o_costs r_fixedValues r_heads r_rests r_known r_total r_length r_begins r_ends r_entries r_costs s_length s_letters s_breaks s_fixed v_values v_lettersRead v_columns p_now p_nowA p_next p_nextA p_low p_high p_seeds p_seedLows t_entries t_lengths t_kept m_code m_spellMany m_spellPrice m_spell m_sounds m_signs m_endSounds m_kind m_itsClass m_count m_endSign m_endClass m_endPrice m_words m_endings m_slip m_guess m_base m_steps m_pairs m_n m_fixedMany m_line m_breaks m_fixedFrom m_fixedTo m_fixedWord m_fixedEnding m_acts m_oldN m_oldFixed m_oldLine m_oldBreaks m_oldFrom m_oldTo m_oldWord m_oldEnding m_kept m_keptMany m_keptWord m_keptKind m_isRead m_isMade m_table m_reach m_next m_rest m_ahead m_parts m_total m_partFrom m_partTo m_partWord m_partEnding m_found m_from0 m_kind0 m_choiceWord m_choiceEnding m_choiceCost m_choices o0) : wp (m_L_law_23 x4 a_ring a_next a_kept b_spellingsOf b_spellingRows b_spellingLengths b_spellingPrices b_words b_wordSounds b_wordSigns b_wordKinds b_wordClasses b_counts b_endings b_endingSounds b_endingSigns b_endingClasses b_endingPrices b_prices b_stepPrices b_pairsOf b_stepCosts o_tails o_leads o_leadsKnown o_listedPart o_length o_entries o_costs r_fixedValues r_heads r_rests r_known r_total r_length r_begins r_ends r_entries r_costs s_length s_letters s_breaks s_fixed v_values v_lettersRead v_columns p_now p_nowA p_next p_nextA p_low p_high p_seeds p_seedLows t_entries t_lengths t_kept m_code m_spellMany m_spellPrice m_spell m_sounds m_signs m_endSounds m_kind m_itsClass m_count m_endSign m_endClass m_endPrice m_words m_endings m_slip m_guess m_base m_steps m_pairs m_n m_fixedMany m_line m_breaks m_fixedFrom m_fixedTo m_fixedWord m_fixedEnding m_acts m_oldN m_oldFixed m_oldLine m_oldBreaks m_oldFrom m_oldTo m_oldWord m_oldEnding m_kept m_keptMany m_keptWord m_keptKind m_isRead m_isMade m_table m_reach m_next m_rest m_ahead m_parts m_total m_partFrom m_partTo m_partWord m_partEnding m_found m_from0 m_kind0 m_choiceWord m_choiceEnding m_choiceCost m_choices o0 L sc) (fun u => (u.1 = 0 → 7 * (k : Int) + 7 ≤ L ∧ SimZ (k + 1) u.2) ∧ (u.1 ≠ 0 → True)) := by
  have e4 : x4 = 7 * (k : Int) := by
    obtain ⟨B, n, fm, nx, kp, K, he, -⟩ := h
    exact he.2.2.2.2.2.2.2.2.2.2.2.2.2.2.2.2.2.2.2.2.2.2.2.2.2.2.2.2.2.2.2.2.2.2.2.2.2.2.2.2.2.2.2.2.2.2.2.2.2
  unfold m_L_law_23
  refine wp_gd (by omega) (wp_gd (by omega) (wp_gd (by omega) (wp_if (fun c => ?_) (fun c => ?_))))
  · exact wp_some ⟨fun z => absurd z (show ¬ (1 : Nat) = 0 by decide), fun _ => trivial⟩
  · have hx7 : 7 * (k : Int) + 7 ≤ L := by omega
    have fin : ∀ {o : Option (Nat × zZ)}, wp o (NX k) → wp o (fun u => (u.1 = 0 → 7 * (k : Int) + 7 ≤ L ∧ SimZ (k + 1) u.2) ∧ (u.1 ≠ 0 → True)) := fun ho => wp_mono ho (fun u hu => ⟨fun _ => ⟨hx7, hu.2⟩, fun _ => trivial⟩)
    have h32 := hsc (Int.toNat x4)
    refine wp_gd (by omega) (wp_gd (by omega) ?_)
    refine wp_if (fun _ => fin (y_148 hL hsc hx7 h)) (fun _ => ?_)
    refine wp_if (fun _ => fin (y_260 hL hsc hx7 h)) (fun _ => ?_)
    refine wp_if (fun _ => fin (y_418 hL hsc hx7 h)) (fun _ => ?_)
    refine wp_if (fun _ => fin (y_542 hL hsc hx7 h)) (fun _ => ?_)
    refine wp_if (fun _ => fin (y_610 hL hsc hx7 h)) (fun _ => ?_)
    refine wp_if (fun _ => fin (y_690 hL hsc hx7 h)) (fun _ => ?_)
    refine wp_if (fun _ => fin (y_746 hL hsc hx7 h)) (fun _ => ?_)
    refine wp_if (fun _ => fin (y_802 hL hsc hx7 h)) (fun _ => ?_)
    refine wp_if (fun _ => fin (y_815 hL hsc hx7 h)) (fun _ => ?_)
    refine wp_if (fun _ => fin (y_828 hL hsc hx7 h)) (fun _ => ?_)
    refine wp_if (fun _ => fin (y_896 hL hsc hx7 h)) (fun _ => ?_)
    refine wp_if (fun _ => fin (y_952 hL hsc hx7 h)) (fun _ => ?_)
    refine wp_if (fun _ => fin (y_1008 hL hsc hx7 h)) (fun _ => ?_)
    refine wp_if (fun _ => fin (y_1088 hL hsc hx7 h)) (fun _ => ?_)
    refine wp_if (fun _ => fin (y_1136 hL hsc hx7 h)) (fun _ => ?_)
    refine wp_if (fun _ => fin (y_1204 hL hsc hx7 h)) (fun _ => ?_)
    refine wp_if (fun _ => fin (y_1217 hL hsc hx7 h)) (fun _ => ?_)
    refine wp_if (fun _ => fin (y_1230 hL hsc hx7 h)) (fun _ => ?_)
    refine wp_if (fun _ => fin (y_1243 hL hsc hx7 h)) (fun _ => ?_)
    refine wp_if (fun _ => fin (y_1256 hL hsc hx7 h)) (fun _ => ?_)
    refine wp_if (fun _ => fin (y_1269 hL hsc hx7 h)) (fun _ => ?_)
    refine wp_if (fun _ => fin (y_1325 hL hsc hx7 h)) (fun _ => ?_)
    refine wp_if (fun _ => fin (y_1393 hL hsc hx7 h)) (fun _ => ?_)
    refine fin (y_1449 hk0 e4 ?_)
    obtain ⟨B, n, fm, nx, kp, K, ⟨rfl, rfl, rfl, rfl, rfl, rfl, rfl, rfl, rfl, rfl, rfl, rfl, rfl, rfl, rfl, rfl, rfl, rfl, rfl, rfl, rfl, rfl, rfl, rfl, rfl, rfl, rfl, rfl, rfl, rfl, rfl, rfl, rfl, rfl, rfl, rfl, rfl, rfl, rfl, rfl, rfl, rfl, rfl, rfl, rfl, rfl, rfl, rfl, rfl, rfl⟩, hG, hS, hC, hR, hA, hT⟩ := h
    exact ⟨B, n, fm, nx, kp, K, ⟨rfl, rfl, rfl, rfl, rfl, rfl, rfl, rfl, rfl, rfl, rfl, rfl, rfl, rfl, rfl, rfl, rfl, rfl, rfl, rfl, rfl, rfl, rfl, rfl, rfl, rfl, rfl, rfl, rfl, rfl, rfl, rfl, rfl, rfl, rfl, rfl, rfl, rfl, rfl, rfl, rfl, rfl, rfl, rfl, rfl, rfl, rfl, rfl, rfl, by omega⟩, hG.up, hS, hC, hR, hA, hT⟩
theorem sim0 (p_nowA p_nextA : Nat) : SimZ 0 (zZ0 p_nowA p_nextA) := by
  let B : Nat → Nat → Int := fun j => if j = 13 then uz (uz (uz (fun _ => 0) 0 30) 1 70) 2 100 else fun _ => 0
  have hB0 : ∀ j, j ≠ 13 → B j = fun _ => 0 := fun j hj => if_neg hj
  have h13 : ∀ i, 0 ≤ B 13 i ∧ B 13 i ≤ 200 := by
    have hu : ∀ (f : Nat → Int) (k : Nat) (x : Int), (∀ i, 0 ≤ f i ∧ f i ≤ 200) → (0 ≤ x ∧ x ≤ 200) → ∀ i, 0 ≤ uz f k x i ∧ uz f k x i ≤ 200 := by
      intro f k x hf hx i
      unfold uz
      by_cases h : i = k
      · rw [if_pos h]
        exact hx
      · rw [if_neg h]
        exact hf i
    exact hu _ 2 100 (hu _ 1 70 (hu _ 0 30 (fun i => by show (0 : Int) ≤ 0 ∧ (0 : Int) ≤ 200; decide) (by decide)) (by decide)) (by decide)
  have z : ∀ (i : Nat), inI ((fun _ : Nat => (0 : Int)) i) := fun i => by show inI 0; decide
  have hGB : GB B := by
    refine ⟨fun k i _ _ _ => ?_, fun s _ => by show (0 : Int) ≤ 0 ∧ (0 : Int) ≤ 3; decide, fun i _ => by show (0 : Int) ≤ 0 ∧ (0 : Int) ≤ 4 ∧ (0 : Int) ≤ 0 ∧ (0 : Int) ≤ 40; decide, fun s j _ hj => ?_, fun i _ => h13 i⟩
    · by_cases hk : k = 13
      · rw [hk]
        have := h13 i
        omega
      · rw [hB0 k hk]
        exact z i
    · have hj : (j : Int) < 0 := hj
      exact absurd hj (by omega)
  have hGW : GW B := ⟨by show (0 : Int) ≤ 0 ∧ (0 : Int) ≤ 60; decide, by show (0 : Int) ≤ 0 ∧ (0 : Int) ≤ 8; decide, fun w hw => absurd (show (w : Int) < 0 from hw) (by omega), fun e he => absurd (show (e : Int) < 0 from he) (by omega), fun i => by show inL 0 ∧ inL 0 ∧ inL 0; decide⟩
  have hbl : bl 0 = 0 := by decide
  have hSC : SCo B (fun _ => 0) := by
    rw [SCx_o]
    intro i _
    show (0 : Int) = 0 - 2 * (bl 0 : Int)
    rw [hbl]
    rfl
  refine ⟨B, 0, 0, 0, 0, 0, ⟨rfl, rfl, rfl, rfl, rfl, rfl, rfl, rfl, rfl, rfl, rfl, rfl, rfl, rfl, rfl, rfl, rfl, rfl, rfl, rfl, rfl, rfl, rfl, rfl, rfl, rfl, rfl, rfl, rfl, rfl, rfl, rfl, rfl, rfl, rfl, rfl, rfl, rfl, rfl, rfl, rfl, rfl, rfl, rfl, rfl, rfl, rfl, rfl, rfl, rfl⟩, ⟨hGB, hGW, fun i _ => by show (0 : Int) ≤ 0 ∧ (0 : Int) ≤ 90; decide, hSC, fun i => by show (-(36 * ((0 : Nat) : Int)) ≤ (0 : Int) ∧ (0 : Int) ≤ 36 * ((0 : Nat) : Int)) ∧ (-(36 * ((0 : Nat) : Int)) ≤ (0 : Int) ∧ (0 : Int) ≤ 36 * ((0 : Nat) : Int)); decide⟩, ⟨by omega, fun i => by show (0 : Int) ≤ 0 ∧ (0 : Int) ≤ 26; decide, fun i _ => rfl, ⟨by omega, fun f hf => absurd hf (by omega), fun i _ h0 => absurd rfl h0, fun f g hf => absurd hf (by omega)⟩, fun i => ⟨z i, z i, z i, z i⟩⟩, ⟨z, z, z, z, z, z, ⟨z, z, by show (0 : Int) ≤ 0; decide, by show (0 : Int) ≤ 36; decide, by show (-1 : Int) ≤ 0; decide, by show (0 : Int) ≤ 36; decide⟩, z, z, ⟨0, rfl, by omega, fun b _ hb => absurd hb (by omega), z, z⟩, by show inI (-1); decide, Or.inl ⟨rfl, rfl, rfl⟩⟩, ⟨z, z, z, z, z, z, Or.inl rfl, Or.inl rfl⟩, ⟨by omega, by omega, Nat.zero_le _, Or.inr ⟨by show (0 : Nat) < 80; decide, by omega⟩, fun i hi => absurd hi (by omega)⟩, ⟨by omega, fun i hi => absurd hi (by omega)⟩⟩
set_option maxHeartbeats 4000000 in
set_option maxRecDepth 20000 in
theorem zp_all {L : Nat} {sc : Nat → Int} (hL : L ≤ 3584) (hsc : ∀ j, inI (sc j)) (p_nowA p_nextA : Nat) : ∃ u : Nat × zZ, zloop (zLaw L sc) FU (zZ0 p_nowA p_nextA) = some u := by
  have h : wp (zloop (zLaw L sc) FU (zZ0 p_nowA p_nextA)) (fun _ => True) := by
    refine wp_loop (fun k a => SimZ k a ∧ 7 * (k : Int) ≤ L) 513 (by omega) ⟨sim0 p_nowA p_nextA, by omega⟩ ?_
    intro k a hk hs
    obtain ⟨hs, hx⟩ := hs
    show wp (zLaw L sc a) _
    unfold zLaw
    refine wp_mono (y_23 hL hsc hx (by omega) hs) ?_
    intro u hu
    refine ⟨fun h0 => ?_, hu.2⟩
    obtain ⟨h1, h2⟩ := hu.1 h0
    exact ⟨by omega, h2, by omega⟩
  obtain ⟨u, hu, -⟩ := h
  exact ⟨u, hu⟩
