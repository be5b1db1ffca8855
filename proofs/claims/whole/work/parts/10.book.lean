section
variable {p : Program} {l : Launch} {e : Env} {s : State} {m : MethodId} {args : Array Value} {below : List Frame} {meth : Method} {c : Code} {A : Nat → Prop} {gw : zG} {Q : State → Prop}
abbrev rmX0_forget : Room := { frames := 0, cells := 0, slots := 0, locals := 0 }
theorem iX0_forget_X0 : ∀ w ∈ wsX00, w ∈ wsX0_forget := by decide +kernel
def m_X0_forget (a_kept : Int) : Option (Int) :=
  some 0
set_option maxHeartbeats 4000000 in
set_option maxRecDepth 100000 in
theorem w_X0_forget (F : zF p s m args meth c A gw cX0_forget 1 none wsX0_forget yX0_forget) (h : Nat → Nat) (a_next : Int) (a_kept : Int) (u : Int) (hm : m_X0_forget a_kept = some u) (H : Heap) (locs : List Loc) (ls : Array Slot) (hP : va_P gw.1 vwCl [(zOX0 h a_next a_kept)] H) (hD : va_D A [(zOX0 h a_next a_kept)]) (hS : va_S A s.heap H locs) (hl : lv_has ls 1 [(0, .ref (h 0))]) : W p l e rmX0_forget s m args below meth c H locs 0 0 (MQ below (zQ gw none [(zOX0 h a_next u)] A) args s 0 0 A) (F0 m 0 ls []) := by
  obtain ⟨hx, hb, hml, hr, hown, hts, hlk, hK, hA, hnm⟩ := id F
  have hown : s.vm.findClass RX0 = some m.cls := hown
  unfold m_X0_forget at hm
  refine lv_aload_n hx hb dX0_forget_0 rfl (lv_at hl 0 rfl) ?_
  refine lv_iconst (v := zi 0) hx hb dX0_forget_1 rfl ?_
  refine va_put (D := gw.1) (ci := 0) (v := .int (zi 0)) (ty := .int) (C := RX0) (T := TX0) (N := 3) hx hb hts iX0_forget_X0 tyX0 tyX0_ok nmX0 hown hK.1 hP hD hS 0 rfl rfl 2 (by decide) (hts (.fieldLink RX0 26 "SoundLine$Acts" "kept" "I") (by decide +kernel)) (fun _ h9 => h9) rfl (by decide +kernel) rfl rfl (Nat.le_of_ble_eq_true rfl) dX0_forget_2 (fun H locs hP hD hS => ?_)
  have hP : va_P gw.1 vwCl [(zOX0 h a_next 0)] H := hP
  have hD : va_D A [(zOX0 h a_next 0)] := hD
  cases hm
  exact z_vret hx hb hr hlk hP hD hS dX0_forget_5
theorem c_X0_forget (l : Launch) (gw : zG) (h : Nat → Nat) (a_next : Int) (a_kept : Int) (u : Int) (hm : m_X0_forget a_kept = some u) (sz : Nat) : Met l yX0_forget wsX0_forget rmX0_forget (va_Pc [.ref (h 0)] (zPre gw [(zOX0 h a_next a_kept)] sz)) (zQ gw none [(zOX0 h a_next u)] (va_A [(zOX0 h a_next a_kept)] sz)) 0 0 (va_A [(zOX0 h a_next a_kept)] sz) :=
  z_met (by decide) rfl (Nat.le_of_ble_eq_true rfl) rfl (fun p e s m args below meth c A F hsz ls hl hP hD => w_X0_forget F h a_next a_kept u hm s.heap [] ls hP hD va_S.rf hl)
abbrev rmX1_addSpelling : Room := { frames := 0, cells := 0, slots := 0, locals := 0 }
theorem iX1_addSpelling_X1 : ∀ w ∈ wsX10, w ∈ wsX1_addSpelling := by decide +kernel
def m_X1_addSpelling_25 (x1 : Int) (x2 : Int) (x3 : Int) (x4 : Int) (x5 : Int) (x6 : Int) (x7 : Int) (b_spellingsOf : Nat → Int) (b_spellingRows : Nat → Int) (b_spellingLengths : Nat → Int) (b_spellingPrices : Nat → Int) : Option (Nat × (Int)) :=
  gd (inI x7) <|
  gd (inI (x5 + x6)) <|
  if (x5 + x6) ≤ x7 then
    some (1, x7)
  else
    gd (0 ≤ x7 ∧ x7 < 150) <|
    gd (inI (b_spellingRows (Int.toNat x7))) <|
    gd (inI x2) <|
    if (b_spellingRows (Int.toNat x7)) = x2 then
      some (2, x7)
    else
      vl (x7 + 1) fun x7_48 =>
      some (0, x7_48)
set_option maxHeartbeats 4000000 in
set_option maxRecDepth 100000 in
theorem w_X1_addSpelling_25 (F : zF p s m args meth c A gw cX1_addSpelling 8 (some .boolean) wsX1_addSpelling yX1_addSpelling) (h : Nat → Nat) (b_words : Int) (b_endings : Int)  (x1 : Int) (x2 : Int) (x3 : Int) (x4 : Int) (x5 : Int) (x6 : Int) (x7 : Int) (b_spellingsOf : Nat → Int) (b_spellingRows : Nat → Int) (b_spellingLengths : Nat → Int) (b_spellingPrices : Nat → Int) (u : Nat × (Int)) (hm : m_X1_addSpelling_25 x1 x2 x3 x4 x5 x6 x7 b_spellingsOf b_spellingRows b_spellingLengths b_spellingPrices = some u) (H : Heap) (locs : List Loc) (ls : Array Slot) (hP : va_P gw.1 vwCl [(zOX1 h b_words b_endings), (zA gw (h 200) 50 b_spellingsOf), (zA gw (h 201) 150 b_spellingRows), (zA gw (h 202) 150 b_spellingLengths), (zA gw (h 203) 150 b_spellingPrices)] H) (hD : va_D A [(zOX1 h b_words b_endings), (zA gw (h 200) 50 b_spellingsOf), (zA gw (h 201) 150 b_spellingRows), (zA gw (h 202) 150 b_spellingLengths), (zA gw (h 203) 150 b_spellingPrices)]) (hS : va_S A s.heap H locs) (hl : lv_has ls 8 [(0, .ref (h 1)), (1, .int (zi x1)), (2, .int (zi x2)), (3, .int (zi x3)), (4, .int (zi x4)), (5, .int (zi x5)), (6, .int (zi x6)), (7, .int (zi x7))]) (k0 : u.1 = 0 → ∀ (H : Heap) (locs : List Loc) (ls : Array Slot), va_P gw.1 vwCl [(zOX1 h b_words b_endings), (zA gw (h 200) 50 b_spellingsOf), (zA gw (h 201) 150 b_spellingRows), (zA gw (h 202) 150 b_spellingLengths), (zA gw (h 203) 150 b_spellingPrices)] H → va_D A [(zOX1 h b_words b_endings), (zA gw (h 200) 50 b_spellingsOf), (zA gw (h 201) 150 b_spellingRows), (zA gw (h 202) 150 b_spellingLengths), (zA gw (h 203) 150 b_spellingPrices)] → va_S A s.heap H locs → lv_has ls 8 [(0, .ref (h 1)), (1, .int (zi x1)), (2, .int (zi x2)), (3, .int (zi x3)), (4, .int (zi x4)), (5, .int (zi x5)), (6, .int (zi x6)), (7, .int (zi (u.2)))] → W p l e rmX1_addSpelling s m args below meth c H locs 0 0 Q (F0 m 25 ls [])) (k1 : u.1 = 1 → ∀ (H : Heap) (locs : List Loc) (ls : Array Slot), va_P gw.1 vwCl [(zOX1 h b_words b_endings), (zA gw (h 200) 50 b_spellingsOf), (zA gw (h 201) 150 b_spellingRows), (zA gw (h 202) 150 b_spellingLengths), (zA gw (h 203) 150 b_spellingPrices)] H → va_D A [(zOX1 h b_words b_endings), (zA gw (h 200) 50 b_spellingsOf), (zA gw (h 201) 150 b_spellingRows), (zA gw (h 202) 150 b_spellingLengths), (zA gw (h 203) 150 b_spellingPrices)] → va_S A s.heap H locs → lv_has ls 8 [(0, .ref (h 1)), (1, .int (zi x1)), (2, .int (zi x2)), (3, .int (zi x3)), (4, .int (zi x4)), (5, .int (zi x5)), (6, .int (zi x6))] → W p l e rmX1_addSpelling s m args below meth c H locs 0 0 Q (F0 m 54 ls [])) (k2 : u.1 = 2 → ∀ (H : Heap) (locs : List Loc) (ls : Array Slot), va_P gw.1 vwCl [(zOX1 h b_words b_endings), (zA gw (h 200) 50 b_spellingsOf), (zA gw (h 201) 150 b_spellingRows), (zA gw (h 202) 150 b_spellingLengths), (zA gw (h 203) 150 b_spellingPrices)] H → va_D A [(zOX1 h b_words b_endings), (zA gw (h 200) 50 b_spellingsOf), (zA gw (h 201) 150 b_spellingRows), (zA gw (h 202) 150 b_spellingLengths), (zA gw (h 203) 150 b_spellingPrices)] → va_S A s.heap H locs → lv_has ls 8 [] → W p l e rmX1_addSpelling s m args below meth c H locs 0 0 Q (F0 m 46 ls [])) : W p l e rmX1_addSpelling s m args below meth c H locs 0 0 Q (F0 m 25 ls []) := by
  obtain ⟨hx, hb, hml, hr, hown, hts, hlk, hK, hA, hnm⟩ := id F
  have hown : s.vm.findClass RX1 = some m.cls := hown
  unfold m_X1_addSpelling_25 at hm
  refine lv_iload hx hb dX1_addSpelling_25 (lv_at hl 7 rfl) ?_
  refine lv_iload hx hb dX1_addSpelling_27 (lv_at hl 5 rfl) ?_
  refine lv_iload hx hb dX1_addSpelling_29 (lv_at hl 6 rfl) ?_
  refine z_iadd hx hb dX1_addSpelling_31 ?_
  obtain ⟨g_32, hm⟩ := gd_e hm
  obtain ⟨g_32_v2, hm⟩ := gd_e hm
  refine z_icmp_ge (tgt := 54) hx hb g_32 g_32_v2 dX1_addSpelling_32 (by decide) (fun c_32 => ?_) (fun c_32 => ?_)
  · have hm := if_p hm c_32
    cases hm
    exact k1 rfl _ _ _ hP hD hS (lv_sub hl [0, 1, 2, 3, 4, 5, 6] rfl)
  · have hm := if_n hm c_32
    refine lv_aload_n hx hb dX1_addSpelling_35 rfl (lv_at hl 0 rfl) ?_
    refine va_get (D := gw.1) (ci := 1) (v := .ref (h 201)) (C := RX1) (T := TX1) (N := 19) hx hb hts iX1_addSpelling_X1 hown hK.1 hP 0 rfl rfl 1 (by decide) (hts (.fieldLink RX1 15 "SoundLine$Book" "spellingRows" "[I") (by decide +kernel)) (fun _ h9 => h9) rfl dX1_addSpelling_36 ?_
    refine lv_iload hx hb dX1_addSpelling_39 (lv_at hl 7 rfl) ?_
    obtain ⟨g_41, hm⟩ := gd_e hm
    refine z_iald hx hb hK hP 2 rfl g_41 (by decide) dX1_addSpelling_41 ?_
    refine lv_iload_n hx hb dX1_addSpelling_42 rfl (lv_at hl 2 rfl) ?_
    obtain ⟨g_43, hm⟩ := gd_e hm
    obtain ⟨g_43_v2, hm⟩ := gd_e hm
    refine z_icmp_ne (tgt := 48) hx hb g_43 g_43_v2 dX1_addSpelling_43 (by decide) (fun c_43 => ?_) (fun c_43 => ?_)
    · have hm := if_n hm c_43
      obtain ⟨x7_48, e_x7_48, hm⟩ := vl_e hm
      refine lv_iinc (v := zi x7_48) (lv' := [(7, .int (zi x7_48)), (0, .ref (h 1)), (1, .int (zi x1)), (2, .int (zi x2)), (3, .int (zi x3)), (4, .int (zi x4)), (5, .int (zi x5)), (6, .int (zi x6))]) hx hb dX1_addSpelling_48 hl (k := 7) rfl (by rw [e_x7_48]; exact zi_add _ _) (by decide) rfl (fun ls hl => ?_)
      refine lv_goto (tgt := 25) hx hb dX1_addSpelling_51 (by decide) ?_
      cases hm
      exact k0 rfl _ _ _ hP hD hS (lv_sub hl [1, 2, 3, 4, 5, 6, 7, 0] rfl)
    · have hm := if_p hm c_43
      cases hm
      exact k2 rfl _ _ _ hP hD hS (lv_sub hl [] rfl)
set_option maxHeartbeats 4000000 in
theorem l_X1_addSpelling_25 (F : zF p s m args meth c A gw cX1_addSpelling 8 (some .boolean) wsX1_addSpelling yX1_addSpelling) (h : Nat → Nat) (b_words : Int) (b_endings : Int)  (x1 : Int) (x2 : Int) (x3 : Int) (x4 : Int) (x5 : Int) (x6 : Int) (b_spellingsOf : Nat → Int) (b_spellingRows : Nat → Int) (b_spellingLengths : Nat → Int) (b_spellingPrices : Nat → Int) (n : Nat) (a : Int) (u : Nat × (Int)) (hm : zloop (fun a => m_X1_addSpelling_25 x1 x2 x3 x4 x5 x6 a b_spellingsOf b_spellingRows b_spellingLengths b_spellingPrices) n a = some u) (k1 : u.1 = 1 → ∀ (H : Heap) (locs : List Loc) (ls : Array Slot), va_P gw.1 vwCl [(zOX1 h b_words b_endings), (zA gw (h 200) 50 b_spellingsOf), (zA gw (h 201) 150 b_spellingRows), (zA gw (h 202) 150 b_spellingLengths), (zA gw (h 203) 150 b_spellingPrices)] H → va_D A [(zOX1 h b_words b_endings), (zA gw (h 200) 50 b_spellingsOf), (zA gw (h 201) 150 b_spellingRows), (zA gw (h 202) 150 b_spellingLengths), (zA gw (h 203) 150 b_spellingPrices)] → va_S A s.heap H locs → lv_has ls 8 [(0, .ref (h 1)), (1, .int (zi x1)), (2, .int (zi x2)), (3, .int (zi x3)), (4, .int (zi x4)), (5, .int (zi x5)), (6, .int (zi x6))] → W p l e rmX1_addSpelling s m args below meth c H locs 0 0 Q (F0 m 54 ls [])) (k2 : u.1 = 2 → ∀ (H : Heap) (locs : List Loc) (ls : Array Slot), va_P gw.1 vwCl [(zOX1 h b_words b_endings), (zA gw (h 200) 50 b_spellingsOf), (zA gw (h 201) 150 b_spellingRows), (zA gw (h 202) 150 b_spellingLengths), (zA gw (h 203) 150 b_spellingPrices)] H → va_D A [(zOX1 h b_words b_endings), (zA gw (h 200) 50 b_spellingsOf), (zA gw (h 201) 150 b_spellingRows), (zA gw (h 202) 150 b_spellingLengths), (zA gw (h 203) 150 b_spellingPrices)] → va_S A s.heap H locs → lv_has ls 8 [] → W p l e rmX1_addSpelling s m args below meth c H locs 0 0 Q (F0 m 46 ls [])) (H : Heap) (locs : List Loc) (ls : Array Slot) (hP : va_P gw.1 vwCl [(zOX1 h b_words b_endings), (zA gw (h 200) 50 b_spellingsOf), (zA gw (h 201) 150 b_spellingRows), (zA gw (h 202) 150 b_spellingLengths), (zA gw (h 203) 150 b_spellingPrices)] H) (hD : va_D A [(zOX1 h b_words b_endings), (zA gw (h 200) 50 b_spellingsOf), (zA gw (h 201) 150 b_spellingRows), (zA gw (h 202) 150 b_spellingLengths), (zA gw (h 203) 150 b_spellingPrices)]) (hS : va_S A s.heap H locs) (hl : lv_has ls 8 [(0, .ref (h 1)), (1, .int (zi x1)), (2, .int (zi x2)), (3, .int (zi x3)), (4, .int (zi x4)), (5, .int (zi x5)), (6, .int (zi x6)), (7, .int (zi a))]) : W p l e rmX1_addSpelling s m args below meth c H locs 0 0 Q (F0 m 25 ls []) := by
  refine zloop_ind (P := fun a => ∀ (H : Heap) (locs : List Loc) (ls : Array Slot), va_P gw.1 vwCl [(zOX1 h b_words b_endings), (zA gw (h 200) 50 b_spellingsOf), (zA gw (h 201) 150 b_spellingRows), (zA gw (h 202) 150 b_spellingLengths), (zA gw (h 203) 150 b_spellingPrices)] H → va_D A [(zOX1 h b_words b_endings), (zA gw (h 200) 50 b_spellingsOf), (zA gw (h 201) 150 b_spellingRows), (zA gw (h 202) 150 b_spellingLengths), (zA gw (h 203) 150 b_spellingPrices)] → va_S A s.heap H locs → lv_has ls 8 [(0, .ref (h 1)), (1, .int (zi x1)), (2, .int (zi x2)), (3, .int (zi x3)), (4, .int (zi x4)), (5, .int (zi x5)), (6, .int (zi x6)), (7, .int (zi a))] → W p l e rmX1_addSpelling s m args below meth c H locs 0 0 Q (F0 m 25 ls [])) (K := fun w => (w.1 = 1 → ∀ (H : Heap) (locs : List Loc) (ls : Array Slot), va_P gw.1 vwCl [(zOX1 h b_words b_endings), (zA gw (h 200) 50 b_spellingsOf), (zA gw (h 201) 150 b_spellingRows), (zA gw (h 202) 150 b_spellingLengths), (zA gw (h 203) 150 b_spellingPrices)] H → va_D A [(zOX1 h b_words b_endings), (zA gw (h 200) 50 b_spellingsOf), (zA gw (h 201) 150 b_spellingRows), (zA gw (h 202) 150 b_spellingLengths), (zA gw (h 203) 150 b_spellingPrices)] → va_S A s.heap H locs → lv_has ls 8 [(0, .ref (h 1)), (1, .int (zi x1)), (2, .int (zi x2)), (3, .int (zi x3)), (4, .int (zi x4)), (5, .int (zi x5)), (6, .int (zi x6))] → W p l e rmX1_addSpelling s m args below meth c H locs 0 0 Q (F0 m 54 ls [])) ∧ (w.1 = 2 → ∀ (H : Heap) (locs : List Loc) (ls : Array Slot), va_P gw.1 vwCl [(zOX1 h b_words b_endings), (zA gw (h 200) 50 b_spellingsOf), (zA gw (h 201) 150 b_spellingRows), (zA gw (h 202) 150 b_spellingLengths), (zA gw (h 203) 150 b_spellingPrices)] H → va_D A [(zOX1 h b_words b_endings), (zA gw (h 200) 50 b_spellingsOf), (zA gw (h 201) 150 b_spellingRows), (zA gw (h 202) 150 b_spellingLengths), (zA gw (h 203) 150 b_spellingPrices)] → va_S A s.heap H locs → lv_has ls 8 [] → W p l e rmX1_addSpelling s m args below meth c H locs 0 0 Q (F0 m 46 ls []))) (fun a w hb h0 hk H locs ls hP hD hS hl => ?_) n a u hm (fun _ => ⟨k1, k2⟩) H locs ls hP hD hS hl
  exact w_X1_addSpelling_25 F h b_words b_endings  x1 x2 x3 x4 x5 x6 a b_spellingsOf b_spellingRows b_spellingLengths b_spellingPrices w hb H locs ls hP hD hS hl (fun z H locs ls hP hD hS hl => h0 z H locs ls hP hD hS hl) (fun z => (hk (by rw [z]; decide)).1 z) (fun z => (hk (by rw [z]; decide)).2 z)
def m_X1_addSpelling (x1 : Int) (x2 : Int) (x3 : Int) (x4 : Int) (b_spellingsOf : Nat → Int) (b_spellingRows : Nat → Int) (b_spellingLengths : Nat → Int) (b_spellingPrices : Nat → Int) : Option (Int × (Nat → Int) × (Nat → Int) × (Nat → Int) × (Nat → Int)) :=
  vl (x1 * 3) fun x5_3 =>
  gd (0 ≤ x1 ∧ x1 < 50) <|
  vl (b_spellingsOf (Int.toNat x1)) fun x6_11 =>
  gd (inI x6_11) <|
  if x6_11 < 3 then
    (zloop (fun a => m_X1_addSpelling_25 x1 x2 x3 x4 x5_3 x6_11 a b_spellingsOf b_spellingRows b_spellingLengths b_spellingPrices) FU x5_3).bind fun (t_25, x7_25) =>
    if t_25 = 1 then
      gd (0 ≤ (x5_3 + x6_11) ∧ (x5_3 + x6_11) < 150) <|
      vl (uz b_spellingRows (Int.toNat (x5_3 + x6_11)) x2) fun b_spellingRows_64 =>
      gd (0 ≤ (x5_3 + x6_11) ∧ (x5_3 + x6_11) < 150) <|
      vl (uz b_spellingLengths (Int.toNat (x5_3 + x6_11)) x3) fun b_spellingLengths_75 =>
      gd (0 ≤ (x5_3 + x6_11) ∧ (x5_3 + x6_11) < 150) <|
      vl (uz b_spellingPrices (Int.toNat (x5_3 + x6_11)) x4) fun b_spellingPrices_87 =>
      gd (0 ≤ x1 ∧ x1 < 50) <|
      gd (0 ≤ x1 ∧ x1 < 50) <|
      vl (uz b_spellingsOf (Int.toNat x1) ((b_spellingsOf (Int.toNat x1)) + 1)) fun b_spellingsOf_97 =>
      some (1, b_spellingsOf_97, b_spellingRows_64, b_spellingLengths_75, b_spellingPrices_87)
    else
      some (0, b_spellingsOf, b_spellingRows, b_spellingLengths, b_spellingPrices)
  else
    some (0, b_spellingsOf, b_spellingRows, b_spellingLengths, b_spellingPrices)
set_option maxHeartbeats 4000000 in
set_option maxRecDepth 100000 in
theorem w_X1_addSpelling (F : zF p s m args meth c A gw cX1_addSpelling 8 (some .boolean) wsX1_addSpelling yX1_addSpelling) (h : Nat → Nat) (b_words : Int) (b_endings : Int) (x1 : Int) (x2 : Int) (x3 : Int) (x4 : Int) (b_spellingsOf : Nat → Int) (b_spellingRows : Nat → Int) (b_spellingLengths : Nat → Int) (b_spellingPrices : Nat → Int) (u : Int × (Nat → Int) × (Nat → Int) × (Nat → Int) × (Nat → Int)) (hm : m_X1_addSpelling x1 x2 x3 x4 b_spellingsOf b_spellingRows b_spellingLengths b_spellingPrices = some u) (H : Heap) (locs : List Loc) (ls : Array Slot) (hP : va_P gw.1 vwCl [(zOX1 h b_words b_endings), (zA gw (h 200) 50 b_spellingsOf), (zA gw (h 201) 150 b_spellingRows), (zA gw (h 202) 150 b_spellingLengths), (zA gw (h 203) 150 b_spellingPrices)] H) (hD : va_D A [(zOX1 h b_words b_endings), (zA gw (h 200) 50 b_spellingsOf), (zA gw (h 201) 150 b_spellingRows), (zA gw (h 202) 150 b_spellingLengths), (zA gw (h 203) 150 b_spellingPrices)]) (hS : va_S A s.heap H locs) (hl : lv_has ls 8 [(0, .ref (h 1)), (1, .int (zi x1)), (2, .int (zi x2)), (3, .int (zi x3)), (4, .int (zi x4))]) : W p l e rmX1_addSpelling s m args below meth c H locs 0 0 (MQ below (zQ gw (some (.int (zi u.1))) [(zOX1 h b_words b_endings), (zA gw (h 200) 50 (u.2.1)), (zA gw (h 201) 150 (u.2.2.1)), (zA gw (h 202) 150 (u.2.2.2.1)), (zA gw (h 203) 150 (u.2.2.2.2))] A) args s 0 0 A) (F0 m 0 ls []) := by
  obtain ⟨hx, hb, hml, hr, hown, hts, hlk, hK, hA, hnm⟩ := id F
  have hown : s.vm.findClass RX1 = some m.cls := hown
  unfold m_X1_addSpelling at hm
  refine lv_iload_n hx hb dX1_addSpelling_0 rfl (lv_at hl 1 rfl) ?_
  refine lv_iconst (v := zi 3) hx hb dX1_addSpelling_1 rfl ?_
  refine z_imul hx hb dX1_addSpelling_2 ?_
  obtain ⟨x5_3, e_x5_3, hm⟩ := vl_e hm
  refine z_top e_x5_3 ?_
  refine lv_istore (lv' := [(5, .int (zi x5_3)), (0, .ref (h 1)), (1, .int (zi x1)), (2, .int (zi x2)), (3, .int (zi x3)), (4, .int (zi x4))]) hx hb dX1_addSpelling_3 hl (by decide) rfl (fun ls hl => ?_)
  refine lv_aload_n hx hb dX1_addSpelling_5 rfl (lv_at hl 1 rfl) ?_
  refine va_get (D := gw.1) (ci := 1) (v := .ref (h 200)) (C := RX1) (T := TX1) (N := 19) hx hb hts iX1_addSpelling_X1 hown hK.1 hP 0 rfl rfl 0 (by decide) (hts (.fieldLink RX1 9 "SoundLine$Book" "spellingsOf" "[I") (by decide +kernel)) (fun _ h9 => h9) rfl dX1_addSpelling_6 ?_
  refine lv_iload_n hx hb dX1_addSpelling_9 rfl (lv_at hl 2 rfl) ?_
  obtain ⟨g_10, hm⟩ := gd_e hm
  refine z_iald hx hb hK hP 1 rfl g_10 (by decide) dX1_addSpelling_10 ?_
  obtain ⟨x6_11, e_x6_11, hm⟩ := vl_e hm
  refine z_top e_x6_11 ?_
  refine lv_istore (lv' := [(6, .int (zi x6_11)), (5, .int (zi x5_3)), (0, .ref (h 1)), (1, .int (zi x1)), (2, .int (zi x2)), (3, .int (zi x3)), (4, .int (zi x4))]) hx hb dX1_addSpelling_11 hl (by decide) rfl (fun ls hl => ?_)
  refine lv_iload hx hb dX1_addSpelling_13 (lv_at hl 0 rfl) ?_
  refine lv_iconst (v := zi 3) hx hb dX1_addSpelling_15 rfl ?_
  obtain ⟨g_16, hm⟩ := gd_e hm
  refine z_icmp_lt (tgt := 21) hx hb g_16 (by decide) dX1_addSpelling_16 (by decide) (fun c_16 => ?_) (fun c_16 => ?_)
  · have hm := if_p hm c_16
    refine lv_iload hx hb dX1_addSpelling_21 (lv_at hl 1 rfl) ?_
    refine lv_istore (lv' := [(7, .int (zi x5_3)), (6, .int (zi x6_11)), (5, .int (zi x5_3)), (0, .ref (h 1)), (1, .int (zi x1)), (2, .int (zi x2)), (3, .int (zi x3)), (4, .int (zi x4))]) hx hb dX1_addSpelling_23 hl (by decide) rfl (fun ls hl => ?_)
    obtain ⟨u_25, hu_25, hm⟩ := bd_e hm
    obtain ⟨t_25, x7_25⟩ := u_25
    refine l_X1_addSpelling_25 F h b_words b_endings  x1 x2 x3 x4 x5_3 x6_11 b_spellingsOf b_spellingRows b_spellingLengths b_spellingPrices FU x5_3 _ hu_25 (fun z_25 H locs ls hP hD hS hl => ?_) (fun z_25 H locs ls hP hD hS hl => ?_) _ _ _ hP hD hS (lv_sub hl [3, 4, 5, 6, 7, 2, 1, 0] rfl)
    · have hP : va_P gw.1 vwCl [(zOX1 h b_words b_endings), (zA gw (h 200) 50 b_spellingsOf), (zA gw (h 201) 150 b_spellingRows), (zA gw (h 202) 150 b_spellingLengths), (zA gw (h 203) 150 b_spellingPrices)] H := hP
      have hD : va_D A [(zOX1 h b_words b_endings), (zA gw (h 200) 50 b_spellingsOf), (zA gw (h 201) 150 b_spellingRows), (zA gw (h 202) 150 b_spellingLengths), (zA gw (h 203) 150 b_spellingPrices)] := hD
      have hl : lv_has ls 8 [(0, .ref (h 1)), (1, .int (zi x1)), (2, .int (zi x2)), (3, .int (zi x3)), (4, .int (zi x4)), (5, .int (zi x5_3)), (6, .int (zi x6_11))] := hl
      have z_25 : t_25 = 1 := z_25
      have hm := if_p hm z_25
      refine lv_aload_n hx hb dX1_addSpelling_54 rfl (lv_at hl 0 rfl) ?_
      refine va_get (D := gw.1) (ci := 1) (v := .ref (h 201)) (C := RX1) (T := TX1) (N := 19) hx hb hts iX1_addSpelling_X1 hown hK.1 hP 0 rfl rfl 1 (by decide) (hts (.fieldLink RX1 15 "SoundLine$Book" "spellingRows" "[I") (by decide +kernel)) (fun _ h9 => h9) rfl dX1_addSpelling_55 ?_
      refine lv_iload hx hb dX1_addSpelling_58 (lv_at hl 5 rfl) ?_
      refine lv_iload hx hb dX1_addSpelling_60 (lv_at hl 6 rfl) ?_
      refine z_iadd hx hb dX1_addSpelling_62 ?_
      refine lv_iload_n hx hb dX1_addSpelling_63 rfl (lv_at hl 2 rfl) ?_
      obtain ⟨g_64, hm⟩ := gd_e hm
      obtain ⟨b_spellingRows_64, e_b_spellingRows_64, hm⟩ := vl_e hm
      refine z_iast hx hb hK hP hD hS 2 rfl g_64 (by decide) e_b_spellingRows_64 dX1_addSpelling_64 (fun H locs hP hD hS => ?_)
      have hP : va_P gw.1 vwCl [(zOX1 h b_words b_endings), (zA gw (h 200) 50 b_spellingsOf), (zA gw (h 201) 150 b_spellingRows_64), (zA gw (h 202) 150 b_spellingLengths), (zA gw (h 203) 150 b_spellingPrices)] H := hP
      have hD : va_D A [(zOX1 h b_words b_endings), (zA gw (h 200) 50 b_spellingsOf), (zA gw (h 201) 150 b_spellingRows_64), (zA gw (h 202) 150 b_spellingLengths), (zA gw (h 203) 150 b_spellingPrices)] := hD
      refine lv_aload_n hx hb dX1_addSpelling_65 rfl (lv_at hl 0 rfl) ?_
      refine va_get (D := gw.1) (ci := 1) (v := .ref (h 202)) (C := RX1) (T := TX1) (N := 19) hx hb hts iX1_addSpelling_X1 hown hK.1 hP 0 rfl rfl 2 (by decide) (hts (.fieldLink RX1 18 "SoundLine$Book" "spellingLengths" "[I") (by decide +kernel)) (fun _ h9 => h9) rfl dX1_addSpelling_66 ?_
      refine lv_iload hx hb dX1_addSpelling_69 (lv_at hl 5 rfl) ?_
      refine lv_iload hx hb dX1_addSpelling_71 (lv_at hl 6 rfl) ?_
      refine z_iadd hx hb dX1_addSpelling_73 ?_
      refine lv_iload_n hx hb dX1_addSpelling_74 rfl (lv_at hl 3 rfl) ?_
      obtain ⟨g_75, hm⟩ := gd_e hm
      obtain ⟨b_spellingLengths_75, e_b_spellingLengths_75, hm⟩ := vl_e hm
      refine z_iast hx hb hK hP hD hS 3 rfl g_75 (by decide) e_b_spellingLengths_75 dX1_addSpelling_75 (fun H locs hP hD hS => ?_)
      have hP : va_P gw.1 vwCl [(zOX1 h b_words b_endings), (zA gw (h 200) 50 b_spellingsOf), (zA gw (h 201) 150 b_spellingRows_64), (zA gw (h 202) 150 b_spellingLengths_75), (zA gw (h 203) 150 b_spellingPrices)] H := hP
      have hD : va_D A [(zOX1 h b_words b_endings), (zA gw (h 200) 50 b_spellingsOf), (zA gw (h 201) 150 b_spellingRows_64), (zA gw (h 202) 150 b_spellingLengths_75), (zA gw (h 203) 150 b_spellingPrices)] := hD
      refine lv_aload_n hx hb dX1_addSpelling_76 rfl (lv_at hl 0 rfl) ?_
      refine va_get (D := gw.1) (ci := 1) (v := .ref (h 203)) (C := RX1) (T := TX1) (N := 19) hx hb hts iX1_addSpelling_X1 hown hK.1 hP 0 rfl rfl 3 (by decide) (hts (.fieldLink RX1 21 "SoundLine$Book" "spellingPrices" "[I") (by decide +kernel)) (fun _ h9 => h9) rfl dX1_addSpelling_77 ?_
      refine lv_iload hx hb dX1_addSpelling_80 (lv_at hl 5 rfl) ?_
      refine lv_iload hx hb dX1_addSpelling_82 (lv_at hl 6 rfl) ?_
      refine z_iadd hx hb dX1_addSpelling_84 ?_
      refine lv_iload hx hb dX1_addSpelling_85 (lv_at hl 4 rfl) ?_
      obtain ⟨g_87, hm⟩ := gd_e hm
      obtain ⟨b_spellingPrices_87, e_b_spellingPrices_87, hm⟩ := vl_e hm
      refine z_iast hx hb hK hP hD hS 4 rfl g_87 (by decide) e_b_spellingPrices_87 dX1_addSpelling_87 (fun H locs hP hD hS => ?_)
      have hP : va_P gw.1 vwCl [(zOX1 h b_words b_endings), (zA gw (h 200) 50 b_spellingsOf), (zA gw (h 201) 150 b_spellingRows_64), (zA gw (h 202) 150 b_spellingLengths_75), (zA gw (h 203) 150 b_spellingPrices_87)] H := hP
      have hD : va_D A [(zOX1 h b_words b_endings), (zA gw (h 200) 50 b_spellingsOf), (zA gw (h 201) 150 b_spellingRows_64), (zA gw (h 202) 150 b_spellingLengths_75), (zA gw (h 203) 150 b_spellingPrices_87)] := hD
      refine lv_aload_n hx hb dX1_addSpelling_88 rfl (lv_at hl 0 rfl) ?_
      refine va_get (D := gw.1) (ci := 1) (v := .ref (h 200)) (C := RX1) (T := TX1) (N := 19) hx hb hts iX1_addSpelling_X1 hown hK.1 hP 0 rfl rfl 0 (by decide) (hts (.fieldLink RX1 9 "SoundLine$Book" "spellingsOf" "[I") (by decide +kernel)) (fun _ h9 => h9) rfl dX1_addSpelling_89 ?_
      refine lv_iload_n hx hb dX1_addSpelling_92 rfl (lv_at hl 1 rfl) ?_
      refine lv_dup2_11 hx hb dX1_addSpelling_93 rfl rfl ?_
      obtain ⟨g_94, hm⟩ := gd_e hm
      refine z_iald hx hb hK hP 1 rfl g_94 (by decide) dX1_addSpelling_94 ?_
      refine lv_iconst (v := zi 1) hx hb dX1_addSpelling_95 rfl ?_
      refine z_iadd hx hb dX1_addSpelling_96 ?_
      obtain ⟨g_97, hm⟩ := gd_e hm
      obtain ⟨b_spellingsOf_97, e_b_spellingsOf_97, hm⟩ := vl_e hm
      refine z_iast hx hb hK hP hD hS 1 rfl g_97 (by decide) e_b_spellingsOf_97 dX1_addSpelling_97 (fun H locs hP hD hS => ?_)
      have hP : va_P gw.1 vwCl [(zOX1 h b_words b_endings), (zA gw (h 200) 50 b_spellingsOf_97), (zA gw (h 201) 150 b_spellingRows_64), (zA gw (h 202) 150 b_spellingLengths_75), (zA gw (h 203) 150 b_spellingPrices_87)] H := hP
      have hD : va_D A [(zOX1 h b_words b_endings), (zA gw (h 200) 50 b_spellingsOf_97), (zA gw (h 201) 150 b_spellingRows_64), (zA gw (h 202) 150 b_spellingLengths_75), (zA gw (h 203) 150 b_spellingPrices_87)] := hD
      refine lv_iconst (v := zi 1) hx hb dX1_addSpelling_98 rfl ?_
      cases hm
      exact z_zret hx hb hr hlk hP hD hS (Or.inr rfl) dX1_addSpelling_99
    · have hP : va_P gw.1 vwCl [(zOX1 h b_words b_endings), (zA gw (h 200) 50 b_spellingsOf), (zA gw (h 201) 150 b_spellingRows), (zA gw (h 202) 150 b_spellingLengths), (zA gw (h 203) 150 b_spellingPrices)] H := hP
      have hD : va_D A [(zOX1 h b_words b_endings), (zA gw (h 200) 50 b_spellingsOf), (zA gw (h 201) 150 b_spellingRows), (zA gw (h 202) 150 b_spellingLengths), (zA gw (h 203) 150 b_spellingPrices)] := hD
      have hl : lv_has ls 8 [] := hl
      have z_25 : t_25 = 2 := z_25
      have hm := if_n hm (show ¬ t_25 = 1 by omega)
      refine lv_iconst (v := zi 0) hx hb dX1_addSpelling_46 rfl ?_
      cases hm
      exact z_zret hx hb hr hlk hP hD hS (Or.inl rfl) dX1_addSpelling_47
  · have hm := if_n hm c_16
    refine lv_iconst (v := zi 0) hx hb dX1_addSpelling_19 rfl ?_
    cases hm
    exact z_zret hx hb hr hlk hP hD hS (Or.inl rfl) dX1_addSpelling_20
theorem c_X1_addSpelling (l : Launch) (gw : zG) (h : Nat → Nat) (b_words : Int) (b_endings : Int) (x1 : Int) (x2 : Int) (x3 : Int) (x4 : Int) (b_spellingsOf : Nat → Int) (b_spellingRows : Nat → Int) (b_spellingLengths : Nat → Int) (b_spellingPrices : Nat → Int) (u : Int × (Nat → Int) × (Nat → Int) × (Nat → Int) × (Nat → Int)) (hm : m_X1_addSpelling x1 x2 x3 x4 b_spellingsOf b_spellingRows b_spellingLengths b_spellingPrices = some u) (sz : Nat) : Met l yX1_addSpelling wsX1_addSpelling rmX1_addSpelling (va_Pc [.ref (h 1), .int (zi x1), .int (zi x2), .int (zi x3), .int (zi x4)] (zPre gw [(zOX1 h b_words b_endings), (zA gw (h 200) 50 b_spellingsOf), (zA gw (h 201) 150 b_spellingRows), (zA gw (h 202) 150 b_spellingLengths), (zA gw (h 203) 150 b_spellingPrices)] sz)) (zQ gw (some (.int (zi u.1))) [(zOX1 h b_words b_endings), (zA gw (h 200) 50 (u.2.1)), (zA gw (h 201) 150 (u.2.2.1)), (zA gw (h 202) 150 (u.2.2.2.1)), (zA gw (h 203) 150 (u.2.2.2.2))] (va_A [(zOX1 h b_words b_endings), (zA gw (h 200) 50 b_spellingsOf), (zA gw (h 201) 150 b_spellingRows), (zA gw (h 202) 150 b_spellingLengths), (zA gw (h 203) 150 b_spellingPrices)] sz)) 0 0 (va_A [(zOX1 h b_words b_endings), (zA gw (h 200) 50 b_spellingsOf), (zA gw (h 201) 150 b_spellingRows), (zA gw (h 202) 150 b_spellingLengths), (zA gw (h 203) 150 b_spellingPrices)] sz) :=
  z_met (by decide) rfl (Nat.le_of_ble_eq_true rfl) rfl (fun p e s m args below meth c A F hsz ls hl hP hD => w_X1_addSpelling F h b_words b_endings x1 x2 x3 x4 b_spellingsOf b_spellingRows b_spellingLengths b_spellingPrices u hm s.heap [] ls hP hD va_S.rf hl)
abbrev rmX1_addWord : Room := { frames := 0, cells := 0, slots := 0, locals := 0 }
theorem iX1_addWord_X1 : ∀ w ∈ wsX10, w ∈ wsX1_addWord := by decide +kernel
def m_X1_addWord (x1 : Int) (x3 : Int) (x5 : Int) (x6 : Int) (b_words : Int) (b_wordSounds : Nat → Int) (b_wordSigns : Nat → Int) (b_wordKinds : Nat → Int) (b_wordClasses : Nat → Int) : Option (Int × Int × (Nat → Int) × (Nat → Int) × (Nat → Int) × (Nat → Int)) :=
  gd (0 ≤ b_words ∧ b_words < 60) <|
  vl (uz b_wordSounds (Int.toNat b_words) x1) fun b_wordSounds_9 =>
  gd (0 ≤ b_words ∧ b_words < 60) <|
  vl (uz b_wordSigns (Int.toNat b_words) x3) fun b_wordSigns_19 =>
  gd (0 ≤ b_words ∧ b_words < 60) <|
  vl (uz b_wordKinds (Int.toNat b_words) x5) fun b_wordKinds_30 =>
  gd (0 ≤ b_words ∧ b_words < 60) <|
  vl (uz b_wordClasses (Int.toNat b_words) x6) fun b_wordClasses_41 =>
  vl (b_words + 1) fun b_words_49 =>
  some ((b_words_49 - 1), b_words_49, b_wordSounds_9, b_wordSigns_19, b_wordKinds_30, b_wordClasses_41)
set_option maxHeartbeats 4000000 in
set_option maxRecDepth 100000 in
theorem w_X1_addWord (F : zF p s m args meth c A gw cX1_addWord 7 (some .int) wsX1_addWord yX1_addWord) (h : Nat → Nat) (b_endings : Int) (x1 : Int) (x3 : Int) (x5 : Int) (x6 : Int) (b_words : Int) (b_wordSounds : Nat → Int) (b_wordSigns : Nat → Int) (b_wordKinds : Nat → Int) (b_wordClasses : Nat → Int) (u : Int × Int × (Nat → Int) × (Nat → Int) × (Nat → Int) × (Nat → Int)) (hm : m_X1_addWord x1 x3 x5 x6 b_words b_wordSounds b_wordSigns b_wordKinds b_wordClasses = some u) (H : Heap) (locs : List Loc) (ls : Array Slot) (hP : va_P gw.1 vwCl [(zOX1 h b_words b_endings), (zB gw (h 205) 60 b_wordSounds), (zB gw (h 206) 60 b_wordSigns), (zA gw (h 207) 60 b_wordKinds), (zA gw (h 208) 60 b_wordClasses)] H) (hD : va_D A [(zOX1 h b_words b_endings), (zB gw (h 205) 60 b_wordSounds), (zB gw (h 206) 60 b_wordSigns), (zA gw (h 207) 60 b_wordKinds), (zA gw (h 208) 60 b_wordClasses)]) (hS : va_S A s.heap H locs) (hl : lv_has ls 7 [(0, .ref (h 1)), (1, .long (zl x1)), (3, .long (zl x3)), (5, .int (zi x5)), (6, .int (zi x6))]) : W p l e rmX1_addWord s m args below meth c H locs 0 0 (MQ below (zQ gw (some (.int (zi u.1))) [(zOX1 h (u.2.1) b_endings), (zB gw (h 205) 60 (u.2.2.1)), (zB gw (h 206) 60 (u.2.2.2.1)), (zA gw (h 207) 60 (u.2.2.2.2.1)), (zA gw (h 208) 60 (u.2.2.2.2.2))] A) args s 0 0 A) (F0 m 0 ls []) := by
  obtain ⟨hx, hb, hml, hr, hown, hts, hlk, hK, hA, hnm⟩ := id F
  have hown : s.vm.findClass RX1 = some m.cls := hown
  unfold m_X1_addWord at hm
  refine lv_aload_n hx hb dX1_addWord_0 rfl (lv_at hl 0 rfl) ?_
  refine va_get (D := gw.1) (ci := 1) (v := .ref (h 205)) (C := RX1) (T := TX1) (N := 19) hx hb hts iX1_addWord_X1 hown hK.1 hP 0 rfl rfl 5 (by decide) (hts (.fieldLink RX1 24 "SoundLine$Book" "wordSounds" "[J") (by decide +kernel)) (fun _ h9 => h9) rfl dX1_addWord_1 ?_
  refine lv_aload_n hx hb dX1_addWord_4 rfl (lv_at hl 0 rfl) ?_
  refine va_get (D := gw.1) (ci := 1) (v := .int (zi b_words)) (C := RX1) (T := TX1) (N := 19) hx hb hts iX1_addWord_X1 hown hK.1 hP 0 rfl rfl 4 (by decide) (hts (.fieldLink RX1 64 "SoundLine$Book" "words" "I") (by decide +kernel)) (fun _ h9 => h9) rfl dX1_addWord_5 ?_
  refine lv_lload_n hx hb dX1_addWord_8 rfl (lv_at hl 1 rfl) ?_
  obtain ⟨g_9, hm⟩ := gd_e hm
  obtain ⟨b_wordSounds_9, e_b_wordSounds_9, hm⟩ := vl_e hm
  refine z_last hx hb hK hP hD hS 1 rfl g_9 (by decide) e_b_wordSounds_9 dX1_addWord_9 (fun H locs hP hD hS => ?_)
  have hP : va_P gw.1 vwCl [(zOX1 h b_words b_endings), (zB gw (h 205) 60 b_wordSounds_9), (zB gw (h 206) 60 b_wordSigns), (zA gw (h 207) 60 b_wordKinds), (zA gw (h 208) 60 b_wordClasses)] H := hP
  have hD : va_D A [(zOX1 h b_words b_endings), (zB gw (h 205) 60 b_wordSounds_9), (zB gw (h 206) 60 b_wordSigns), (zA gw (h 207) 60 b_wordKinds), (zA gw (h 208) 60 b_wordClasses)] := hD
  refine lv_aload_n hx hb dX1_addWord_10 rfl (lv_at hl 0 rfl) ?_
  refine va_get (D := gw.1) (ci := 1) (v := .ref (h 206)) (C := RX1) (T := TX1) (N := 19) hx hb hts iX1_addWord_X1 hown hK.1 hP 0 rfl rfl 6 (by decide) (hts (.fieldLink RX1 28 "SoundLine$Book" "wordSigns" "[J") (by decide +kernel)) (fun _ h9 => h9) rfl dX1_addWord_11 ?_
  refine lv_aload_n hx hb dX1_addWord_14 rfl (lv_at hl 0 rfl) ?_
  refine va_get (D := gw.1) (ci := 1) (v := .int (zi b_words)) (C := RX1) (T := TX1) (N := 19) hx hb hts iX1_addWord_X1 hown hK.1 hP 0 rfl rfl 4 (by decide) (hts (.fieldLink RX1 64 "SoundLine$Book" "words" "I") (by decide +kernel)) (fun _ h9 => h9) rfl dX1_addWord_15 ?_
  refine lv_lload_n hx hb dX1_addWord_18 rfl (lv_at hl 2 rfl) ?_
  obtain ⟨g_19, hm⟩ := gd_e hm
  obtain ⟨b_wordSigns_19, e_b_wordSigns_19, hm⟩ := vl_e hm
  refine z_last hx hb hK hP hD hS 2 rfl g_19 (by decide) e_b_wordSigns_19 dX1_addWord_19 (fun H locs hP hD hS => ?_)
  have hP : va_P gw.1 vwCl [(zOX1 h b_words b_endings), (zB gw (h 205) 60 b_wordSounds_9), (zB gw (h 206) 60 b_wordSigns_19), (zA gw (h 207) 60 b_wordKinds), (zA gw (h 208) 60 b_wordClasses)] H := hP
  have hD : va_D A [(zOX1 h b_words b_endings), (zB gw (h 205) 60 b_wordSounds_9), (zB gw (h 206) 60 b_wordSigns_19), (zA gw (h 207) 60 b_wordKinds), (zA gw (h 208) 60 b_wordClasses)] := hD
  refine lv_aload_n hx hb dX1_addWord_20 rfl (lv_at hl 0 rfl) ?_
  refine va_get (D := gw.1) (ci := 1) (v := .ref (h 207)) (C := RX1) (T := TX1) (N := 19) hx hb hts iX1_addWord_X1 hown hK.1 hP 0 rfl rfl 7 (by decide) (hts (.fieldLink RX1 31 "SoundLine$Book" "wordKinds" "[I") (by decide +kernel)) (fun _ h9 => h9) rfl dX1_addWord_21 ?_
  refine lv_aload_n hx hb dX1_addWord_24 rfl (lv_at hl 0 rfl) ?_
  refine va_get (D := gw.1) (ci := 1) (v := .int (zi b_words)) (C := RX1) (T := TX1) (N := 19) hx hb hts iX1_addWord_X1 hown hK.1 hP 0 rfl rfl 4 (by decide) (hts (.fieldLink RX1 64 "SoundLine$Book" "words" "I") (by decide +kernel)) (fun _ h9 => h9) rfl dX1_addWord_25 ?_
  refine lv_iload hx hb dX1_addWord_28 (lv_at hl 3 rfl) ?_
  obtain ⟨g_30, hm⟩ := gd_e hm
  obtain ⟨b_wordKinds_30, e_b_wordKinds_30, hm⟩ := vl_e hm
  refine z_iast hx hb hK hP hD hS 3 rfl g_30 (by decide) e_b_wordKinds_30 dX1_addWord_30 (fun H locs hP hD hS => ?_)
  have hP : va_P gw.1 vwCl [(zOX1 h b_words b_endings), (zB gw (h 205) 60 b_wordSounds_9), (zB gw (h 206) 60 b_wordSigns_19), (zA gw (h 207) 60 b_wordKinds_30), (zA gw (h 208) 60 b_wordClasses)] H := hP
  have hD : va_D A [(zOX1 h b_words b_endings), (zB gw (h 205) 60 b_wordSounds_9), (zB gw (h 206) 60 b_wordSigns_19), (zA gw (h 207) 60 b_wordKinds_30), (zA gw (h 208) 60 b_wordClasses)] := hD
  refine lv_aload_n hx hb dX1_addWord_31 rfl (lv_at hl 0 rfl) ?_
  refine va_get (D := gw.1) (ci := 1) (v := .ref (h 208)) (C := RX1) (T := TX1) (N := 19) hx hb hts iX1_addWord_X1 hown hK.1 hP 0 rfl rfl 8 (by decide) (hts (.fieldLink RX1 34 "SoundLine$Book" "wordClasses" "[I") (by decide +kernel)) (fun _ h9 => h9) rfl dX1_addWord_32 ?_
  refine lv_aload_n hx hb dX1_addWord_35 rfl (lv_at hl 0 rfl) ?_
  refine va_get (D := gw.1) (ci := 1) (v := .int (zi b_words)) (C := RX1) (T := TX1) (N := 19) hx hb hts iX1_addWord_X1 hown hK.1 hP 0 rfl rfl 4 (by decide) (hts (.fieldLink RX1 64 "SoundLine$Book" "words" "I") (by decide +kernel)) (fun _ h9 => h9) rfl dX1_addWord_36 ?_
  refine lv_iload hx hb dX1_addWord_39 (lv_at hl 4 rfl) ?_
  obtain ⟨g_41, hm⟩ := gd_e hm
  obtain ⟨b_wordClasses_41, e_b_wordClasses_41, hm⟩ := vl_e hm
  refine z_iast hx hb hK hP hD hS 4 rfl g_41 (by decide) e_b_wordClasses_41 dX1_addWord_41 (fun H locs hP hD hS => ?_)
  have hP : va_P gw.1 vwCl [(zOX1 h b_words b_endings), (zB gw (h 205) 60 b_wordSounds_9), (zB gw (h 206) 60 b_wordSigns_19), (zA gw (h 207) 60 b_wordKinds_30), (zA gw (h 208) 60 b_wordClasses_41)] H := hP
  have hD : va_D A [(zOX1 h b_words b_endings), (zB gw (h 205) 60 b_wordSounds_9), (zB gw (h 206) 60 b_wordSigns_19), (zA gw (h 207) 60 b_wordKinds_30), (zA gw (h 208) 60 b_wordClasses_41)] := hD
  refine lv_aload_n hx hb dX1_addWord_42 rfl (lv_at hl 0 rfl) ?_
  refine lv_dup hx hb dX1_addWord_43 rfl ?_
  refine va_get (D := gw.1) (ci := 1) (v := .int (zi b_words)) (C := RX1) (T := TX1) (N := 19) hx hb hts iX1_addWord_X1 hown hK.1 hP 0 rfl rfl 4 (by decide) (hts (.fieldLink RX1 64 "SoundLine$Book" "words" "I") (by decide +kernel)) (fun _ h9 => h9) rfl dX1_addWord_44 ?_
  refine lv_iconst (v := zi 1) hx hb dX1_addWord_47 rfl ?_
  refine z_iadd hx hb dX1_addWord_48 ?_
  obtain ⟨b_words_49, e_b_words_49, hm⟩ := vl_e hm
  refine z_top e_b_words_49 ?_
  refine va_put (D := gw.1) (ci := 1) (v := .int (zi b_words_49)) (ty := .int) (C := RX1) (T := TX1) (N := 19) hx hb hts iX1_addWord_X1 tyX1 tyX1_ok nmX1 hown hK.1 hP hD hS 0 rfl rfl 4 (by decide) (hts (.fieldLink RX1 64 "SoundLine$Book" "words" "I") (by decide +kernel)) (fun _ h9 => h9) rfl (by decide +kernel) rfl rfl (Nat.le_of_ble_eq_true rfl) dX1_addWord_49 (fun H locs hP hD hS => ?_)
  have hP : va_P gw.1 vwCl [(zOX1 h b_words_49 b_endings), (zB gw (h 205) 60 b_wordSounds_9), (zB gw (h 206) 60 b_wordSigns_19), (zA gw (h 207) 60 b_wordKinds_30), (zA gw (h 208) 60 b_wordClasses_41)] H := hP
  have hD : va_D A [(zOX1 h b_words_49 b_endings), (zB gw (h 205) 60 b_wordSounds_9), (zB gw (h 206) 60 b_wordSigns_19), (zA gw (h 207) 60 b_wordKinds_30), (zA gw (h 208) 60 b_wordClasses_41)] := hD
  refine lv_aload_n hx hb dX1_addWord_52 rfl (lv_at hl 0 rfl) ?_
  refine va_get (D := gw.1) (ci := 1) (v := .int (zi b_words_49)) (C := RX1) (T := TX1) (N := 19) hx hb hts iX1_addWord_X1 hown hK.1 hP 0 rfl rfl 4 (by decide) (hts (.fieldLink RX1 64 "SoundLine$Book" "words" "I") (by decide +kernel)) (fun _ h9 => h9) rfl dX1_addWord_53 ?_
  refine lv_iconst (v := zi 1) hx hb dX1_addWord_56 rfl ?_
  refine z_isub hx hb dX1_addWord_57 ?_
  cases hm
  exact z_iret hx hb hr hlk hP hD hS dX1_addWord_58
theorem c_X1_addWord (l : Launch) (gw : zG) (h : Nat → Nat) (b_endings : Int) (x1 : Int) (x3 : Int) (x5 : Int) (x6 : Int) (b_words : Int) (b_wordSounds : Nat → Int) (b_wordSigns : Nat → Int) (b_wordKinds : Nat → Int) (b_wordClasses : Nat → Int) (u : Int × Int × (Nat → Int) × (Nat → Int) × (Nat → Int) × (Nat → Int)) (hm : m_X1_addWord x1 x3 x5 x6 b_words b_wordSounds b_wordSigns b_wordKinds b_wordClasses = some u) (sz : Nat) : Met l yX1_addWord wsX1_addWord rmX1_addWord (va_Pc [.ref (h 1), .long (zl x1), .long (zl x3), .int (zi x5), .int (zi x6)] (zPre gw [(zOX1 h b_words b_endings), (zB gw (h 205) 60 b_wordSounds), (zB gw (h 206) 60 b_wordSigns), (zA gw (h 207) 60 b_wordKinds), (zA gw (h 208) 60 b_wordClasses)] sz)) (zQ gw (some (.int (zi u.1))) [(zOX1 h (u.2.1) b_endings), (zB gw (h 205) 60 (u.2.2.1)), (zB gw (h 206) 60 (u.2.2.2.1)), (zA gw (h 207) 60 (u.2.2.2.2.1)), (zA gw (h 208) 60 (u.2.2.2.2.2))] (va_A [(zOX1 h b_words b_endings), (zB gw (h 205) 60 b_wordSounds), (zB gw (h 206) 60 b_wordSigns), (zA gw (h 207) 60 b_wordKinds), (zA gw (h 208) 60 b_wordClasses)] sz)) 0 0 (va_A [(zOX1 h b_words b_endings), (zB gw (h 205) 60 b_wordSounds), (zB gw (h 206) 60 b_wordSigns), (zA gw (h 207) 60 b_wordKinds), (zA gw (h 208) 60 b_wordClasses)] sz) :=
  z_met (by decide) rfl (Nat.le_of_ble_eq_true rfl) rfl (fun p e s m args below meth c A F hsz ls hl hP hD => w_X1_addWord F h b_endings x1 x3 x5 x6 b_words b_wordSounds b_wordSigns b_wordKinds b_wordClasses u hm s.heap [] ls hP hD va_S.rf hl)
abbrev rmX1_addEnding : Room := { frames := 0, cells := 0, slots := 0, locals := 0 }
theorem iX1_addEnding_X1 : ∀ w ∈ wsX10, w ∈ wsX1_addEnding := by decide +kernel
def m_X1_addEnding (x1 : Int) (x3 : Int) (x4 : Int) (x5 : Int) (b_endings : Int) (b_endingSounds : Nat → Int) (b_endingSigns : Nat → Int) (b_endingClasses : Nat → Int) (b_endingPrices : Nat → Int) : Option (Int × Int × (Nat → Int) × (Nat → Int) × (Nat → Int) × (Nat → Int)) :=
  gd (0 ≤ b_endings ∧ b_endings < 8) <|
  vl (uz b_endingSounds (Int.toNat b_endings) x1) fun b_endingSounds_9 =>
  gd (0 ≤ b_endings ∧ b_endings < 8) <|
  vl (uz b_endingSigns (Int.toNat b_endings) x3) fun b_endingSigns_19 =>
  gd (0 ≤ b_endings ∧ b_endings < 8) <|
  vl (uz b_endingClasses (Int.toNat b_endings) x4) fun b_endingClasses_30 =>
  gd (0 ≤ b_endings ∧ b_endings < 8) <|
  vl (uz b_endingPrices (Int.toNat b_endings) x5) fun b_endingPrices_41 =>
  vl (b_endings + 1) fun b_endings_49 =>
  some ((b_endings_49 - 1), b_endings_49, b_endingSounds_9, b_endingSigns_19, b_endingClasses_30, b_endingPrices_41)
set_option maxHeartbeats 4000000 in
set_option maxRecDepth 100000 in
theorem w_X1_addEnding (F : zF p s m args meth c A gw cX1_addEnding 6 (some .int) wsX1_addEnding yX1_addEnding) (h : Nat → Nat) (b_words : Int) (x1 : Int) (x3 : Int) (x4 : Int) (x5 : Int) (b_endings : Int) (b_endingSounds : Nat → Int) (b_endingSigns : Nat → Int) (b_endingClasses : Nat → Int) (b_endingPrices : Nat → Int) (u : Int × Int × (Nat → Int) × (Nat → Int) × (Nat → Int) × (Nat → Int)) (hm : m_X1_addEnding x1 x3 x4 x5 b_endings b_endingSounds b_endingSigns b_endingClasses b_endingPrices = some u) (H : Heap) (locs : List Loc) (ls : Array Slot) (hP : va_P gw.1 vwCl [(zOX1 h b_words b_endings), (zB gw (h 211) 8 b_endingSounds), (zA gw (h 212) 8 b_endingSigns), (zA gw (h 213) 8 b_endingClasses), (zA gw (h 214) 8 b_endingPrices)] H) (hD : va_D A [(zOX1 h b_words b_endings), (zB gw (h 211) 8 b_endingSounds), (zA gw (h 212) 8 b_endingSigns), (zA gw (h 213) 8 b_endingClasses), (zA gw (h 214) 8 b_endingPrices)]) (hS : va_S A s.heap H locs) (hl : lv_has ls 6 [(0, .ref (h 1)), (1, .long (zl x1)), (3, .int (zi x3)), (4, .int (zi x4)), (5, .int (zi x5))]) : W p l e rmX1_addEnding s m args below meth c H locs 0 0 (MQ below (zQ gw (some (.int (zi u.1))) [(zOX1 h b_words (u.2.1)), (zB gw (h 211) 8 (u.2.2.1)), (zA gw (h 212) 8 (u.2.2.2.1)), (zA gw (h 213) 8 (u.2.2.2.2.1)), (zA gw (h 214) 8 (u.2.2.2.2.2))] A) args s 0 0 A) (F0 m 0 ls []) := by
  obtain ⟨hx, hb, hml, hr, hown, hts, hlk, hK, hA, hnm⟩ := id F
  have hown : s.vm.findClass RX1 = some m.cls := hown
  unfold m_X1_addEnding at hm
  refine lv_aload_n hx hb dX1_addEnding_0 rfl (lv_at hl 0 rfl) ?_
  refine va_get (D := gw.1) (ci := 1) (v := .ref (h 211)) (C := RX1) (T := TX1) (N := 19) hx hb hts iX1_addEnding_X1 hown hK.1 hP 0 rfl rfl 11 (by decide) (hts (.fieldLink RX1 40 "SoundLine$Book" "endingSounds" "[J") (by decide +kernel)) (fun _ h9 => h9) rfl dX1_addEnding_1 ?_
  refine lv_aload_n hx hb dX1_addEnding_4 rfl (lv_at hl 0 rfl) ?_
  refine va_get (D := gw.1) (ci := 1) (v := .int (zi b_endings)) (C := RX1) (T := TX1) (N := 19) hx hb hts iX1_addEnding_X1 hown hK.1 hP 0 rfl rfl 10 (by decide) (hts (.fieldLink RX1 68 "SoundLine$Book" "endings" "I") (by decide +kernel)) (fun _ h9 => h9) rfl dX1_addEnding_5 ?_
  refine lv_lload_n hx hb dX1_addEnding_8 rfl (lv_at hl 1 rfl) ?_
  obtain ⟨g_9, hm⟩ := gd_e hm
  obtain ⟨b_endingSounds_9, e_b_endingSounds_9, hm⟩ := vl_e hm
  refine z_last hx hb hK hP hD hS 1 rfl g_9 (by decide) e_b_endingSounds_9 dX1_addEnding_9 (fun H locs hP hD hS => ?_)
  have hP : va_P gw.1 vwCl [(zOX1 h b_words b_endings), (zB gw (h 211) 8 b_endingSounds_9), (zA gw (h 212) 8 b_endingSigns), (zA gw (h 213) 8 b_endingClasses), (zA gw (h 214) 8 b_endingPrices)] H := hP
  have hD : va_D A [(zOX1 h b_words b_endings), (zB gw (h 211) 8 b_endingSounds_9), (zA gw (h 212) 8 b_endingSigns), (zA gw (h 213) 8 b_endingClasses), (zA gw (h 214) 8 b_endingPrices)] := hD
  refine lv_aload_n hx hb dX1_addEnding_10 rfl (lv_at hl 0 rfl) ?_
  refine va_get (D := gw.1) (ci := 1) (v := .ref (h 212)) (C := RX1) (T := TX1) (N := 19) hx hb hts iX1_addEnding_X1 hown hK.1 hP 0 rfl rfl 12 (by decide) (hts (.fieldLink RX1 43 "SoundLine$Book" "endingSigns" "[I") (by decide +kernel)) (fun _ h9 => h9) rfl dX1_addEnding_11 ?_
  refine lv_aload_n hx hb dX1_addEnding_14 rfl (lv_at hl 0 rfl) ?_
  refine va_get (D := gw.1) (ci := 1) (v := .int (zi b_endings)) (C := RX1) (T := TX1) (N := 19) hx hb hts iX1_addEnding_X1 hown hK.1 hP 0 rfl rfl 10 (by decide) (hts (.fieldLink RX1 68 "SoundLine$Book" "endings" "I") (by decide +kernel)) (fun _ h9 => h9) rfl dX1_addEnding_15 ?_
  refine lv_iload_n hx hb dX1_addEnding_18 rfl (lv_at hl 2 rfl) ?_
  obtain ⟨g_19, hm⟩ := gd_e hm
  obtain ⟨b_endingSigns_19, e_b_endingSigns_19, hm⟩ := vl_e hm
  refine z_iast hx hb hK hP hD hS 2 rfl g_19 (by decide) e_b_endingSigns_19 dX1_addEnding_19 (fun H locs hP hD hS => ?_)
  have hP : va_P gw.1 vwCl [(zOX1 h b_words b_endings), (zB gw (h 211) 8 b_endingSounds_9), (zA gw (h 212) 8 b_endingSigns_19), (zA gw (h 213) 8 b_endingClasses), (zA gw (h 214) 8 b_endingPrices)] H := hP
  have hD : va_D A [(zOX1 h b_words b_endings), (zB gw (h 211) 8 b_endingSounds_9), (zA gw (h 212) 8 b_endingSigns_19), (zA gw (h 213) 8 b_endingClasses), (zA gw (h 214) 8 b_endingPrices)] := hD
  refine lv_aload_n hx hb dX1_addEnding_20 rfl (lv_at hl 0 rfl) ?_
  refine va_get (D := gw.1) (ci := 1) (v := .ref (h 213)) (C := RX1) (T := TX1) (N := 19) hx hb hts iX1_addEnding_X1 hown hK.1 hP 0 rfl rfl 13 (by decide) (hts (.fieldLink RX1 46 "SoundLine$Book" "endingClasses" "[I") (by decide +kernel)) (fun _ h9 => h9) rfl dX1_addEnding_21 ?_
  refine lv_aload_n hx hb dX1_addEnding_24 rfl (lv_at hl 0 rfl) ?_
  refine va_get (D := gw.1) (ci := 1) (v := .int (zi b_endings)) (C := RX1) (T := TX1) (N := 19) hx hb hts iX1_addEnding_X1 hown hK.1 hP 0 rfl rfl 10 (by decide) (hts (.fieldLink RX1 68 "SoundLine$Book" "endings" "I") (by decide +kernel)) (fun _ h9 => h9) rfl dX1_addEnding_25 ?_
  refine lv_iload hx hb dX1_addEnding_28 (lv_at hl 3 rfl) ?_
  obtain ⟨g_30, hm⟩ := gd_e hm
  obtain ⟨b_endingClasses_30, e_b_endingClasses_30, hm⟩ := vl_e hm
  refine z_iast hx hb hK hP hD hS 3 rfl g_30 (by decide) e_b_endingClasses_30 dX1_addEnding_30 (fun H locs hP hD hS => ?_)
  have hP : va_P gw.1 vwCl [(zOX1 h b_words b_endings), (zB gw (h 211) 8 b_endingSounds_9), (zA gw (h 212) 8 b_endingSigns_19), (zA gw (h 213) 8 b_endingClasses_30), (zA gw (h 214) 8 b_endingPrices)] H := hP
  have hD : va_D A [(zOX1 h b_words b_endings), (zB gw (h 211) 8 b_endingSounds_9), (zA gw (h 212) 8 b_endingSigns_19), (zA gw (h 213) 8 b_endingClasses_30), (zA gw (h 214) 8 b_endingPrices)] := hD
  refine lv_aload_n hx hb dX1_addEnding_31 rfl (lv_at hl 0 rfl) ?_
  refine va_get (D := gw.1) (ci := 1) (v := .ref (h 214)) (C := RX1) (T := TX1) (N := 19) hx hb hts iX1_addEnding_X1 hown hK.1 hP 0 rfl rfl 14 (by decide) (hts (.fieldLink RX1 49 "SoundLine$Book" "endingPrices" "[I") (by decide +kernel)) (fun _ h9 => h9) rfl dX1_addEnding_32 ?_
  refine lv_aload_n hx hb dX1_addEnding_35 rfl (lv_at hl 0 rfl) ?_
  refine va_get (D := gw.1) (ci := 1) (v := .int (zi b_endings)) (C := RX1) (T := TX1) (N := 19) hx hb hts iX1_addEnding_X1 hown hK.1 hP 0 rfl rfl 10 (by decide) (hts (.fieldLink RX1 68 "SoundLine$Book" "endings" "I") (by decide +kernel)) (fun _ h9 => h9) rfl dX1_addEnding_36 ?_
  refine lv_iload hx hb dX1_addEnding_39 (lv_at hl 4 rfl) ?_
  obtain ⟨g_41, hm⟩ := gd_e hm
  obtain ⟨b_endingPrices_41, e_b_endingPrices_41, hm⟩ := vl_e hm
  refine z_iast hx hb hK hP hD hS 4 rfl g_41 (by decide) e_b_endingPrices_41 dX1_addEnding_41 (fun H locs hP hD hS => ?_)
  have hP : va_P gw.1 vwCl [(zOX1 h b_words b_endings), (zB gw (h 211) 8 b_endingSounds_9), (zA gw (h 212) 8 b_endingSigns_19), (zA gw (h 213) 8 b_endingClasses_30), (zA gw (h 214) 8 b_endingPrices_41)] H := hP
  have hD : va_D A [(zOX1 h b_words b_endings), (zB gw (h 211) 8 b_endingSounds_9), (zA gw (h 212) 8 b_endingSigns_19), (zA gw (h 213) 8 b_endingClasses_30), (zA gw (h 214) 8 b_endingPrices_41)] := hD
  refine lv_aload_n hx hb dX1_addEnding_42 rfl (lv_at hl 0 rfl) ?_
  refine lv_dup hx hb dX1_addEnding_43 rfl ?_
  refine va_get (D := gw.1) (ci := 1) (v := .int (zi b_endings)) (C := RX1) (T := TX1) (N := 19) hx hb hts iX1_addEnding_X1 hown hK.1 hP 0 rfl rfl 10 (by decide) (hts (.fieldLink RX1 68 "SoundLine$Book" "endings" "I") (by decide +kernel)) (fun _ h9 => h9) rfl dX1_addEnding_44 ?_
  refine lv_iconst (v := zi 1) hx hb dX1_addEnding_47 rfl ?_
  refine z_iadd hx hb dX1_addEnding_48 ?_
  obtain ⟨b_endings_49, e_b_endings_49, hm⟩ := vl_e hm
  refine z_top e_b_endings_49 ?_
  refine va_put (D := gw.1) (ci := 1) (v := .int (zi b_endings_49)) (ty := .int) (C := RX1) (T := TX1) (N := 19) hx hb hts iX1_addEnding_X1 tyX1 tyX1_ok nmX1 hown hK.1 hP hD hS 0 rfl rfl 10 (by decide) (hts (.fieldLink RX1 68 "SoundLine$Book" "endings" "I") (by decide +kernel)) (fun _ h9 => h9) rfl (by decide +kernel) rfl rfl (Nat.le_of_ble_eq_true rfl) dX1_addEnding_49 (fun H locs hP hD hS => ?_)
  have hP : va_P gw.1 vwCl [(zOX1 h b_words b_endings_49), (zB gw (h 211) 8 b_endingSounds_9), (zA gw (h 212) 8 b_endingSigns_19), (zA gw (h 213) 8 b_endingClasses_30), (zA gw (h 214) 8 b_endingPrices_41)] H := hP
  have hD : va_D A [(zOX1 h b_words b_endings_49), (zB gw (h 211) 8 b_endingSounds_9), (zA gw (h 212) 8 b_endingSigns_19), (zA gw (h 213) 8 b_endingClasses_30), (zA gw (h 214) 8 b_endingPrices_41)] := hD
  refine lv_aload_n hx hb dX1_addEnding_52 rfl (lv_at hl 0 rfl) ?_
  refine va_get (D := gw.1) (ci := 1) (v := .int (zi b_endings_49)) (C := RX1) (T := TX1) (N := 19) hx hb hts iX1_addEnding_X1 hown hK.1 hP 0 rfl rfl 10 (by decide) (hts (.fieldLink RX1 68 "SoundLine$Book" "endings" "I") (by decide +kernel)) (fun _ h9 => h9) rfl dX1_addEnding_53 ?_
  refine lv_iconst (v := zi 1) hx hb dX1_addEnding_56 rfl ?_
  refine z_isub hx hb dX1_addEnding_57 ?_
  cases hm
  exact z_iret hx hb hr hlk hP hD hS dX1_addEnding_58
theorem c_X1_addEnding (l : Launch) (gw : zG) (h : Nat → Nat) (b_words : Int) (x1 : Int) (x3 : Int) (x4 : Int) (x5 : Int) (b_endings : Int) (b_endingSounds : Nat → Int) (b_endingSigns : Nat → Int) (b_endingClasses : Nat → Int) (b_endingPrices : Nat → Int) (u : Int × Int × (Nat → Int) × (Nat → Int) × (Nat → Int) × (Nat → Int)) (hm : m_X1_addEnding x1 x3 x4 x5 b_endings b_endingSounds b_endingSigns b_endingClasses b_endingPrices = some u) (sz : Nat) : Met l yX1_addEnding wsX1_addEnding rmX1_addEnding (va_Pc [.ref (h 1), .long (zl x1), .int (zi x3), .int (zi x4), .int (zi x5)] (zPre gw [(zOX1 h b_words b_endings), (zB gw (h 211) 8 b_endingSounds), (zA gw (h 212) 8 b_endingSigns), (zA gw (h 213) 8 b_endingClasses), (zA gw (h 214) 8 b_endingPrices)] sz)) (zQ gw (some (.int (zi u.1))) [(zOX1 h b_words (u.2.1)), (zB gw (h 211) 8 (u.2.2.1)), (zA gw (h 212) 8 (u.2.2.2.1)), (zA gw (h 213) 8 (u.2.2.2.2.1)), (zA gw (h 214) 8 (u.2.2.2.2.2))] (va_A [(zOX1 h b_words b_endings), (zB gw (h 211) 8 b_endingSounds), (zA gw (h 212) 8 b_endingSigns), (zA gw (h 213) 8 b_endingClasses), (zA gw (h 214) 8 b_endingPrices)] sz)) 0 0 (va_A [(zOX1 h b_words b_endings), (zB gw (h 211) 8 b_endingSounds), (zA gw (h 212) 8 b_endingSigns), (zA gw (h 213) 8 b_endingClasses), (zA gw (h 214) 8 b_endingPrices)] sz) :=
  z_met (by decide) rfl (Nat.le_of_ble_eq_true rfl) rfl (fun p e s m args below meth c A F hsz ls hl hP hD => w_X1_addEnding F h b_words x1 x3 x4 x5 b_endings b_endingSounds b_endingSigns b_endingClasses b_endingPrices u hm s.heap [] ls hP hD va_S.rf hl)
abbrev rmX8_digits : Room := { frames := 0, cells := 0, slots := 0, locals := 0 }
def m_X8_digits_2 (x0 : Int) (x1 : Int) : Option (Nat × (Int)) :=
  gd (inI x1) <|
  if 31 ≤ x1 then
    some (1, x1)
  else
    gd (inI x0) <|
    gd (0 ≤ x1 ∧ x1 < 32) <|
    gd (inI (x0 / 2 ^ Int.toNat x1)) <|
    if (x0 / 2 ^ Int.toNat x1) ≤ 0 then
      some (1, x1)
    else
      vl (x1 + 1) fun x1_14 =>
      some (0, x1_14)
set_option maxHeartbeats 4000000 in
set_option maxRecDepth 100000 in
theorem w_X8_digits_2 (F : zF p s m args meth c A gw cX8_digits 2 (some .int) wsX8_digits yX8_digits) (h : Nat → Nat)  (x0 : Int) (x1 : Int) (u : Nat × (Int)) (hm : m_X8_digits_2 x0 x1 = some u) (H : Heap) (locs : List Loc) (ls : Array Slot) (hP : va_P gw.1 vwCl [] H) (hD : va_D A []) (hS : va_S A s.heap H locs) (hl : lv_has ls 2 [(0, .int (zi x0)), (1, .int (zi x1))]) (k0 : u.1 = 0 → ∀ (H : Heap) (locs : List Loc) (ls : Array Slot), va_P gw.1 vwCl [] H → va_D A [] → va_S A s.heap H locs → lv_has ls 2 [(0, .int (zi x0)), (1, .int (zi (u.2)))] → W p l e rmX8_digits s m args below meth c H locs 0 0 Q (F0 m 2 ls [])) (k1 : u.1 = 1 → ∀ (H : Heap) (locs : List Loc) (ls : Array Slot), va_P gw.1 vwCl [] H → va_D A [] → va_S A s.heap H locs → lv_has ls 2 [(1, .int (zi (u.2)))] → W p l e rmX8_digits s m args below meth c H locs 0 0 Q (F0 m 20 ls [])) : W p l e rmX8_digits s m args below meth c H locs 0 0 Q (F0 m 2 ls []) := by
  obtain ⟨hx, hb, hml, hr, hown, hts, hlk, hK, hA, hnm⟩ := id F
  have hown : s.vm.findClass RX8 = some m.cls := hown
  unfold m_X8_digits_2 at hm
  refine lv_iload_n hx hb dX8_digits_2 rfl (lv_at hl 1 rfl) ?_
  refine lv_bipush (v := zi 31) hx hb dX8_digits_3 (by decide) ?_
  obtain ⟨g_5, hm⟩ := gd_e hm
  refine z_icmp_ge (tgt := 20) hx hb g_5 (by decide) dX8_digits_5 (by decide) (fun c_5 => ?_) (fun c_5 => ?_)
  · have hm := if_p hm c_5
    cases hm
    exact k1 rfl _ _ _ hP hD hS (lv_sub hl [1] rfl)
  · have hm := if_n hm c_5
    refine lv_iload_n hx hb dX8_digits_8 rfl (lv_at hl 0 rfl) ?_
    refine lv_iload_n hx hb dX8_digits_9 rfl (lv_at hl 1 rfl) ?_
    obtain ⟨g_10, hm⟩ := gd_e hm
    obtain ⟨g_10_v2, hm⟩ := gd_e hm
    refine z_ishr hx hb ⟨g_10, g_10_v2⟩ dX8_digits_10 ?_
    obtain ⟨g_11, hm⟩ := gd_e hm
    refine z_if_le (tgt := 20) hx hb g_11 dX8_digits_11 (by decide) (fun c_11 => ?_) (fun c_11 => ?_)
    · have hm := if_p hm c_11
      cases hm
      exact k1 rfl _ _ _ hP hD hS (lv_sub hl [1] rfl)
    · have hm := if_n hm c_11
      obtain ⟨x1_14, e_x1_14, hm⟩ := vl_e hm
      refine lv_iinc (v := zi x1_14) (lv' := [(1, .int (zi x1_14)), (0, .int (zi x0))]) hx hb dX8_digits_14 hl (k := 1) rfl (by rw [e_x1_14]; exact zi_add _ _) (by decide) rfl (fun ls hl => ?_)
      refine lv_goto (tgt := 2) hx hb dX8_digits_17 (by decide) ?_
      cases hm
      exact k0 rfl _ _ _ hP hD hS (lv_sub hl [1, 0] rfl)
set_option maxHeartbeats 4000000 in
theorem l_X8_digits_2 (F : zF p s m args meth c A gw cX8_digits 2 (some .int) wsX8_digits yX8_digits) (h : Nat → Nat)  (x0 : Int) (n : Nat) (a : Int) (u : Nat × (Int)) (hm : zloop (fun a => m_X8_digits_2 x0 a) n a = some u) (k1 : u.1 = 1 → ∀ (H : Heap) (locs : List Loc) (ls : Array Slot), va_P gw.1 vwCl [] H → va_D A [] → va_S A s.heap H locs → lv_has ls 2 [(1, .int (zi (u.2)))] → W p l e rmX8_digits s m args below meth c H locs 0 0 Q (F0 m 20 ls [])) (H : Heap) (locs : List Loc) (ls : Array Slot) (hP : va_P gw.1 vwCl [] H) (hD : va_D A []) (hS : va_S A s.heap H locs) (hl : lv_has ls 2 [(0, .int (zi x0)), (1, .int (zi a))]) : W p l e rmX8_digits s m args below meth c H locs 0 0 Q (F0 m 2 ls []) := by
  refine zloop_ind (P := fun a => ∀ (H : Heap) (locs : List Loc) (ls : Array Slot), va_P gw.1 vwCl [] H → va_D A [] → va_S A s.heap H locs → lv_has ls 2 [(0, .int (zi x0)), (1, .int (zi a))] → W p l e rmX8_digits s m args below meth c H locs 0 0 Q (F0 m 2 ls [])) (K := fun w => (w.1 = 1 → ∀ (H : Heap) (locs : List Loc) (ls : Array Slot), va_P gw.1 vwCl [] H → va_D A [] → va_S A s.heap H locs → lv_has ls 2 [(1, .int (zi (w.2)))] → W p l e rmX8_digits s m args below meth c H locs 0 0 Q (F0 m 20 ls []))) (fun a w hb h0 hk H locs ls hP hD hS hl => ?_) n a u hm (fun _ => k1) H locs ls hP hD hS hl
  exact w_X8_digits_2 F h  x0 a w hb H locs ls hP hD hS hl (fun z H locs ls hP hD hS hl => h0 z H locs ls hP hD hS hl) (fun z => (hk (by rw [z]; decide)) z)
def m_X8_digits (x0 : Int) : Option (Int) :=
  (zloop (fun a => m_X8_digits_2 x0 a) FU 0).bind fun (t_2, x1_2) =>
  some x1_2
set_option maxHeartbeats 4000000 in
set_option maxRecDepth 100000 in
theorem w_X8_digits (F : zF p s m args meth c A gw cX8_digits 2 (some .int) wsX8_digits yX8_digits) (h : Nat → Nat) (x0 : Int) (u : Int) (hm : m_X8_digits x0 = some u) (H : Heap) (locs : List Loc) (ls : Array Slot) (hP : va_P gw.1 vwCl [] H) (hD : va_D A []) (hS : va_S A s.heap H locs) (hl : lv_has ls 2 [(0, .int (zi x0))]) : W p l e rmX8_digits s m args below meth c H locs 0 0 (MQ below (zQ gw (some (.int (zi u))) [] A) args s 0 0 A) (F0 m 0 ls []) := by
  obtain ⟨hx, hb, hml, hr, hown, hts, hlk, hK, hA, hnm⟩ := id F
  have hown : s.vm.findClass RX8 = some m.cls := hown
  unfold m_X8_digits at hm
  refine lv_iconst (v := zi 0) hx hb dX8_digits_0 rfl ?_
  refine lv_istore_n (lv' := [(1, .int (zi 0)), (0, .int (zi x0))]) hx hb dX8_digits_1 rfl hl (by decide) rfl (fun ls hl => ?_)
  obtain ⟨u_2, hu_2, hm⟩ := bd_e hm
  obtain ⟨t_2, x1_2⟩ := u_2
  refine l_X8_digits_2 F h  x0 FU 0 _ hu_2 (fun z_2 H locs ls hP hD hS hl => ?_) _ _ _ hP hD hS (lv_sub hl [1, 0] rfl)
  have hP : va_P gw.1 vwCl [] H := hP
  have hD : va_D A [] := hD
  have hl : lv_has ls 2 [(1, .int (zi x1_2))] := hl
  refine lv_iload_n hx hb dX8_digits_20 rfl (lv_at hl 0 rfl) ?_
  cases hm
  exact z_iret hx hb hr hlk hP hD hS dX8_digits_21
theorem c_X8_digits (l : Launch) (gw : zG) (h : Nat → Nat) (x0 : Int) (u : Int) (hm : m_X8_digits x0 = some u) (sz : Nat) : Met l yX8_digits wsX8_digits rmX8_digits (va_Pc [.int (zi x0)] (zPre gw [] sz)) (zQ gw (some (.int (zi u))) [] (va_A [] sz)) 0 0 (va_A [] sz) :=
  z_met (by decide) rfl (Nat.le_of_ble_eq_true rfl) rfl (fun p e s m args below meth c A F hsz ls hl hP hD => w_X8_digits F h x0 u hm s.heap [] ls hP hD va_S.rf hl)
abbrev rmX1_priceStep : Room := { frames := 1, cells := 0, slots := 0, locals := 21 }
theorem iX1_priceStep_X1 : ∀ w ∈ wsX10, w ∈ wsX1_priceStep := by decide +kernel
def m_X1_priceStep (x1 : Int) (x2 : Int) (b_stepPrices : Nat → Int) (b_pairsOf : Nat → Int) (b_stepCosts : Nat → Int) : Option ((Nat → Int) × (Nat → Int)) :=
  gd (0 ≤ x1 ∧ x1 < 81) <|
  vl (uz b_stepPrices (Int.toNat x1) x2) fun b_stepPrices_6 =>
  gd (0 ≤ x1 ∧ x1 < 81) <|
  (m_X8_digits (b_pairsOf (Int.toNat x1))).bind fun r_20 =>
  gd (0 ≤ x1 ∧ x1 < 81) <|
  vl (uz b_stepCosts (Int.toNat x1) (x2 - (2 * r_20))) fun b_stepCosts_25 =>
  some (b_stepPrices_6, b_stepCosts_25)
set_option maxHeartbeats 4000000 in
set_option maxRecDepth 100000 in
theorem w_X1_priceStep (F : zF p s m args meth c A gw cX1_priceStep 3 none wsX1_priceStep yX1_priceStep) (h : Nat → Nat) (b_words : Int) (b_endings : Int) (x1 : Int) (x2 : Int) (b_stepPrices : Nat → Int) (b_pairsOf : Nat → Int) (b_stepCosts : Nat → Int) (u : (Nat → Int) × (Nat → Int)) (hm : m_X1_priceStep x1 x2 b_stepPrices b_pairsOf b_stepCosts = some u) (H : Heap) (locs : List Loc) (ls : Array Slot) (hP : va_P gw.1 vwCl [(zOX1 h b_words b_endings), (zA gw (h 216) 81 b_stepPrices), (zA gw (h 217) 81 b_pairsOf), (zA gw (h 218) 81 b_stepCosts)] H) (hD : va_D A [(zOX1 h b_words b_endings), (zA gw (h 216) 81 b_stepPrices), (zA gw (h 217) 81 b_pairsOf), (zA gw (h 218) 81 b_stepCosts)]) (hS : va_S A s.heap H locs) (hl : lv_has ls 3 [(0, .ref (h 1)), (1, .int (zi x1)), (2, .int (zi x2))]) : W p l e rmX1_priceStep s m args below meth c H locs 0 0 (MQ below (zQ gw none [(zOX1 h b_words b_endings), (zA gw (h 216) 81 (u.1)), (zA gw (h 217) 81 b_pairsOf), (zA gw (h 218) 81 (u.2))] A) args s 0 0 A) (F0 m 0 ls []) := by
  obtain ⟨hx, hb, hml, hr, hown, hts, hlk, hK, hA, hnm⟩ := id F
  have hown : s.vm.findClass RX1 = some m.cls := hown
  unfold m_X1_priceStep at hm
  refine lv_aload_n hx hb dX1_priceStep_0 rfl (lv_at hl 0 rfl) ?_
  refine va_get (D := gw.1) (ci := 1) (v := .ref (h 216)) (C := RX1) (T := TX1) (N := 19) hx hb hts iX1_priceStep_X1 hown hK.1 hP 0 rfl rfl 16 (by decide) (hts (.fieldLink RX1 55 "SoundLine$Book" "stepPrices" "[I") (by decide +kernel)) (fun _ h9 => h9) rfl dX1_priceStep_1 ?_
  refine lv_iload_n hx hb dX1_priceStep_4 rfl (lv_at hl 1 rfl) ?_
  refine lv_iload_n hx hb dX1_priceStep_5 rfl (lv_at hl 2 rfl) ?_
  obtain ⟨g_6, hm⟩ := gd_e hm
  obtain ⟨b_stepPrices_6, e_b_stepPrices_6, hm⟩ := vl_e hm
  refine z_iast hx hb hK hP hD hS 1 rfl g_6 (by decide) e_b_stepPrices_6 dX1_priceStep_6 (fun H locs hP hD hS => ?_)
  have hP : va_P gw.1 vwCl [(zOX1 h b_words b_endings), (zA gw (h 216) 81 b_stepPrices_6), (zA gw (h 217) 81 b_pairsOf), (zA gw (h 218) 81 b_stepCosts)] H := hP
  have hD : va_D A [(zOX1 h b_words b_endings), (zA gw (h 216) 81 b_stepPrices_6), (zA gw (h 217) 81 b_pairsOf), (zA gw (h 218) 81 b_stepCosts)] := hD
  refine lv_aload_n hx hb dX1_priceStep_7 rfl (lv_at hl 0 rfl) ?_
  refine va_get (D := gw.1) (ci := 1) (v := .ref (h 218)) (C := RX1) (T := TX1) (N := 19) hx hb hts iX1_priceStep_X1 hown hK.1 hP 0 rfl rfl 18 (by decide) (hts (.fieldLink RX1 61 "SoundLine$Book" "stepCosts" "[I") (by decide +kernel)) (fun _ h9 => h9) rfl dX1_priceStep_8 ?_
  refine lv_iload_n hx hb dX1_priceStep_11 rfl (lv_at hl 1 rfl) ?_
  refine lv_iload_n hx hb dX1_priceStep_12 rfl (lv_at hl 2 rfl) ?_
  refine lv_iconst (v := zi 2) hx hb dX1_priceStep_13 rfl ?_
  refine lv_aload_n hx hb dX1_priceStep_14 rfl (lv_at hl 0 rfl) ?_
  refine va_get (D := gw.1) (ci := 1) (v := .ref (h 217)) (C := RX1) (T := TX1) (N := 19) hx hb hts iX1_priceStep_X1 hown hK.1 hP 0 rfl rfl 17 (by decide) (hts (.fieldLink RX1 58 "SoundLine$Book" "pairsOf" "[I") (by decide +kernel)) (fun _ h9 => h9) rfl dX1_priceStep_15 ?_
  refine lv_iload_n hx hb dX1_priceStep_18 rfl (lv_at hl 1 rfl) ?_
  obtain ⟨g_19, hm⟩ := gd_e hm
  refine z_iald hx hb hK hP 2 rfl g_19 (by decide) dX1_priceStep_19 ?_
  obtain ⟨r_20, hr_20, hm⟩ := bd_e hm
  refine z_callSN (As := [.int (zi (b_pairsOf (Int.toNat x1)))]) (rest := [.int (zi 2), .int (zi x2), .int (zi x1), .ref (h 218)]) (wr := [(zOX1 h b_words b_endings), (zA gw (h 216) 81 b_stepPrices_6), (zA gw (h 217) 81 b_pairsOf), (zA gw (h 218) 81 b_stepCosts)]) (ws' := [(zOX1 h b_words b_endings), (zA gw (h 216) 81 b_stepPrices_6), (zA gw (h 217) 81 b_pairsOf), (zA gw (h 218) 81 b_stepCosts)]) ⟨hx, hb, hml, hown, hts⟩ (c_X8_digits l gw h (b_pairsOf (Int.toNat x1)) r_20 hr_20 H.size) ⟨va_cnB 1 hts gX1_priceStep_X8_digits_n71 rfl rfl rfl (hK.2.2 (RX1, 71, yX8_digits, RX8) (List.mem_of_getElem? (i := 33) rfl)) (hts (.initialized RX8) (by decide +kernel)) (by decide +kernel) ⟨Nat.le_of_ble_eq_true rfl, Nat.le_of_ble_eq_true rfl⟩, (hts (.static yX8_digits) (by decide +kernel)), trivial⟩ hK hP hD hS hA [] [0, 1, 2, 3] [0, 1, 2, 3] (by decide) rfl rfl (by decide) (by decide) rfl (by decide) rfl hl.1 (Nat.le_of_ble_eq_true rfl) dX1_priceStep_20 ⟨Nat.zero_le _, Nat.zero_le _⟩ rfl (fun H locs hP hD hS => ?_)
  have hP : va_P gw.1 vwCl [(zOX1 h b_words b_endings), (zA gw (h 216) 81 b_stepPrices_6), (zA gw (h 217) 81 b_pairsOf), (zA gw (h 218) 81 b_stepCosts)] H := hP
  have hD : va_D A [(zOX1 h b_words b_endings), (zA gw (h 216) 81 b_stepPrices_6), (zA gw (h 217) 81 b_pairsOf), (zA gw (h 218) 81 b_stepCosts)] := hD
  refine W.eq (g2 := F0 m 23 ls [.int (zi r_20), .int (zi 2), .int (zi x2), .int (zi x1), .ref (h 218)]) rfl ?_
  refine z_imul hx hb dX1_priceStep_23 ?_
  refine z_isub hx hb dX1_priceStep_24 ?_
  obtain ⟨g_25, hm⟩ := gd_e hm
  obtain ⟨b_stepCosts_25, e_b_stepCosts_25, hm⟩ := vl_e hm
  refine z_iast hx hb hK hP hD hS 3 rfl g_25 (by decide) e_b_stepCosts_25 dX1_priceStep_25 (fun H locs hP hD hS => ?_)
  have hP : va_P gw.1 vwCl [(zOX1 h b_words b_endings), (zA gw (h 216) 81 b_stepPrices_6), (zA gw (h 217) 81 b_pairsOf), (zA gw (h 218) 81 b_stepCosts_25)] H := hP
  have hD : va_D A [(zOX1 h b_words b_endings), (zA gw (h 216) 81 b_stepPrices_6), (zA gw (h 217) 81 b_pairsOf), (zA gw (h 218) 81 b_stepCosts_25)] := hD
  cases hm
  exact z_vret hx hb hr hlk hP hD hS dX1_priceStep_26
theorem c_X1_priceStep (l : Launch) (gw : zG) (h : Nat → Nat) (b_words : Int) (b_endings : Int) (x1 : Int) (x2 : Int) (b_stepPrices : Nat → Int) (b_pairsOf : Nat → Int) (b_stepCosts : Nat → Int) (u : (Nat → Int) × (Nat → Int)) (hm : m_X1_priceStep x1 x2 b_stepPrices b_pairsOf b_stepCosts = some u) (sz : Nat) : Met l yX1_priceStep wsX1_priceStep rmX1_priceStep (va_Pc [.ref (h 1), .int (zi x1), .int (zi x2)] (zPre gw [(zOX1 h b_words b_endings), (zA gw (h 216) 81 b_stepPrices), (zA gw (h 217) 81 b_pairsOf), (zA gw (h 218) 81 b_stepCosts)] sz)) (zQ gw none [(zOX1 h b_words b_endings), (zA gw (h 216) 81 (u.1)), (zA gw (h 217) 81 b_pairsOf), (zA gw (h 218) 81 (u.2))] (va_A [(zOX1 h b_words b_endings), (zA gw (h 216) 81 b_stepPrices), (zA gw (h 217) 81 b_pairsOf), (zA gw (h 218) 81 b_stepCosts)] sz)) 0 0 (va_A [(zOX1 h b_words b_endings), (zA gw (h 216) 81 b_stepPrices), (zA gw (h 217) 81 b_pairsOf), (zA gw (h 218) 81 b_stepCosts)] sz) :=
  z_met (by decide) rfl (Nat.le_of_ble_eq_true rfl) rfl (fun p e s m args below meth c A F hsz ls hl hP hD => w_X1_priceStep F h b_words b_endings x1 x2 b_stepPrices b_pairsOf b_stepCosts u hm s.heap [] ls hP hD va_S.rf hl)
abbrev rmX8_wordOf : Room := { frames := 0, cells := 0, slots := 0, locals := 0 }
def m_X8_wordOf (x0 : Int) : Option (Int) :=
  gd (inI x0) <|
  if x0 = 540 then
    some (-1)
  else
    some (Int.tdiv x0 9)
set_option maxHeartbeats 4000000 in
set_option maxRecDepth 100000 in
theorem w_X8_wordOf (F : zF p s m args meth c A gw cX8_wordOf 1 (some .int) wsX8_wordOf yX8_wordOf) (h : Nat → Nat) (x0 : Int) (u : Int) (hm : m_X8_wordOf x0 = some u) (H : Heap) (locs : List Loc) (ls : Array Slot) (hP : va_P gw.1 vwCl [] H) (hD : va_D A []) (hS : va_S A s.heap H locs) (hl : lv_has ls 1 [(0, .int (zi x0))]) : W p l e rmX8_wordOf s m args below meth c H locs 0 0 (MQ below (zQ gw (some (.int (zi u))) [] A) args s 0 0 A) (F0 m 0 ls []) := by
  obtain ⟨hx, hb, hml, hr, hown, hts, hlk, hK, hA, hnm⟩ := id F
  have hown : s.vm.findClass RX8 = some m.cls := hown
  unfold m_X8_wordOf at hm
  refine lv_iload_n hx hb dX8_wordOf_0 rfl (lv_at hl 0 rfl) ?_
  refine lv_sipush (v := zi 540) hx hb dX8_wordOf_1 (by decide) ?_
  obtain ⟨g_4, hm⟩ := gd_e hm
  refine z_icmp_ne (tgt := 11) hx hb g_4 (by decide) dX8_wordOf_4 (by decide) (fun c_4 => ?_) (fun c_4 => ?_)
  · have hm := if_n hm c_4
    refine lv_iload_n hx hb dX8_wordOf_11 rfl (lv_at hl 0 rfl) ?_
    refine lv_bipush (v := zi 9) hx hb dX8_wordOf_12 (by decide) ?_
    refine z_idiv hx hb ⟨g_4, (by decide), (by decide)⟩ dX8_wordOf_14 ?_
    cases hm
    exact z_iret hx hb hr hlk hP hD hS dX8_wordOf_15
  · have hm := if_p hm c_4
    refine lv_iconst (v := zi (-1)) hx hb dX8_wordOf_7 rfl ?_
    refine lv_goto (tgt := 15) hx hb dX8_wordOf_8 (by decide) ?_
    cases hm
    exact z_iret hx hb hr hlk hP hD hS dX8_wordOf_15
theorem c_X8_wordOf (l : Launch) (gw : zG) (h : Nat → Nat) (x0 : Int) (u : Int) (hm : m_X8_wordOf x0 = some u) (sz : Nat) : Met l yX8_wordOf wsX8_wordOf rmX8_wordOf (va_Pc [.int (zi x0)] (zPre gw [] sz)) (zQ gw (some (.int (zi u))) [] (va_A [] sz)) 0 0 (va_A [] sz) :=
  z_met (by decide) rfl (Nat.le_of_ble_eq_true rfl) rfl (fun p e s m args below meth c A F hsz ls hl hP hD => w_X8_wordOf F h x0 u hm s.heap [] ls hP hD va_S.rf hl)
abbrev rmX1_kindOf : Room := { frames := 1, cells := 0, slots := 0, locals := 20 }
theorem iX1_kindOf_X1 : ∀ w ∈ wsX10, w ∈ wsX1_kindOf := by decide +kernel
def m_X1_kindOf (x1 : Int) (b_wordKinds : Nat → Int) : Option (Int) :=
  gd (inI x1) <|
  if x1 = 540 then
    some 8
  else
    (m_X8_wordOf x1).bind fun r_17 =>
    gd (0 ≤ r_17 ∧ r_17 < 60) <|
    some (b_wordKinds (Int.toNat r_17))
set_option maxHeartbeats 4000000 in
set_option maxRecDepth 100000 in
theorem w_X1_kindOf (F : zF p s m args meth c A gw cX1_kindOf 2 (some .int) wsX1_kindOf yX1_kindOf) (h : Nat → Nat) (b_words : Int) (b_endings : Int) (x1 : Int) (b_wordKinds : Nat → Int) (u : Int) (hm : m_X1_kindOf x1 b_wordKinds = some u) (H : Heap) (locs : List Loc) (ls : Array Slot) (hP : va_P gw.1 vwCl [(zOX1 h b_words b_endings), (zA gw (h 207) 60 b_wordKinds)] H) (hD : va_D A [(zOX1 h b_words b_endings), (zA gw (h 207) 60 b_wordKinds)]) (hS : va_S A s.heap H locs) (hl : lv_has ls 2 [(0, .ref (h 1)), (1, .int (zi x1))]) : W p l e rmX1_kindOf s m args below meth c H locs 0 0 (MQ below (zQ gw (some (.int (zi u))) [(zOX1 h b_words b_endings), (zA gw (h 207) 60 b_wordKinds)] A) args s 0 0 A) (F0 m 0 ls []) := by
  obtain ⟨hx, hb, hml, hr, hown, hts, hlk, hK, hA, hnm⟩ := id F
  have hown : s.vm.findClass RX1 = some m.cls := hown
  unfold m_X1_kindOf at hm
  refine lv_iload_n hx hb dX1_kindOf_0 rfl (lv_at hl 1 rfl) ?_
  refine lv_sipush (v := zi 540) hx hb dX1_kindOf_1 (by decide) ?_
  obtain ⟨g_4, hm⟩ := gd_e hm
  refine z_icmp_ne (tgt := 12) hx hb g_4 (by decide) dX1_kindOf_4 (by decide) (fun c_4 => ?_) (fun c_4 => ?_)
  · have hm := if_n hm c_4
    refine lv_aload_n hx hb dX1_kindOf_12 rfl (lv_at hl 0 rfl) ?_
    refine va_get (D := gw.1) (ci := 1) (v := .ref (h 207)) (C := RX1) (T := TX1) (N := 19) hx hb hts iX1_kindOf_X1 hown hK.1 hP 0 rfl rfl 7 (by decide) (hts (.fieldLink RX1 31 "SoundLine$Book" "wordKinds" "[I") (by decide +kernel)) (fun _ h9 => h9) rfl dX1_kindOf_13 ?_
    refine lv_iload_n hx hb dX1_kindOf_16 rfl (lv_at hl 1 rfl) ?_
    obtain ⟨r_17, hr_17, hm⟩ := bd_e hm
    refine z_callSN (As := [.int (zi x1)]) (rest := [.ref (h 207)]) (wr := [(zOX1 h b_words b_endings), (zA gw (h 207) 60 b_wordKinds)]) (ws' := [(zOX1 h b_words b_endings), (zA gw (h 207) 60 b_wordKinds)]) ⟨hx, hb, hml, hown, hts⟩ (c_X8_wordOf l gw h x1 r_17 hr_17 H.size) ⟨va_cnB 1 hts gX1_kindOf_X8_wordOf_n75 rfl rfl rfl (hK.2.2 (RX1, 75, yX8_wordOf, RX8) (List.mem_of_getElem? (i := 34) rfl)) (hts (.initialized RX8) (by decide +kernel)) (by decide +kernel) ⟨Nat.le_of_ble_eq_true rfl, Nat.le_of_ble_eq_true rfl⟩, (hts (.static yX8_wordOf) (by decide +kernel)), trivial⟩ hK hP hD hS hA [] [0, 1] [0, 1] (by decide) rfl rfl (by decide) (by decide) rfl (by decide) rfl hl.1 (Nat.le_of_ble_eq_true rfl) dX1_kindOf_17 ⟨Nat.zero_le _, Nat.zero_le _⟩ rfl (fun H locs hP hD hS => ?_)
    have hP : va_P gw.1 vwCl [(zOX1 h b_words b_endings), (zA gw (h 207) 60 b_wordKinds)] H := hP
    have hD : va_D A [(zOX1 h b_words b_endings), (zA gw (h 207) 60 b_wordKinds)] := hD
    refine W.eq (g2 := F0 m 20 ls [.int (zi r_17), .ref (h 207)]) rfl ?_
    obtain ⟨g_20, hm⟩ := gd_e hm
    refine z_iald hx hb hK hP 1 rfl g_20 (by decide) dX1_kindOf_20 ?_
    cases hm
    exact z_iret hx hb hr hlk hP hD hS dX1_kindOf_21
  · have hm := if_p hm c_4
    refine lv_bipush (v := zi 8) hx hb dX1_kindOf_7 (by decide) ?_
    refine lv_goto (tgt := 21) hx hb dX1_kindOf_9 (by decide) ?_
    cases hm
    exact z_iret hx hb hr hlk hP hD hS dX1_kindOf_21
theorem c_X1_kindOf (l : Launch) (gw : zG) (h : Nat → Nat) (b_words : Int) (b_endings : Int) (x1 : Int) (b_wordKinds : Nat → Int) (u : Int) (hm : m_X1_kindOf x1 b_wordKinds = some u) (sz : Nat) : Met l yX1_kindOf wsX1_kindOf rmX1_kindOf (va_Pc [.ref (h 1), .int (zi x1)] (zPre gw [(zOX1 h b_words b_endings), (zA gw (h 207) 60 b_wordKinds)] sz)) (zQ gw (some (.int (zi u))) [(zOX1 h b_words b_endings), (zA gw (h 207) 60 b_wordKinds)] (va_A [(zOX1 h b_words b_endings), (zA gw (h 207) 60 b_wordKinds)] sz)) 0 0 (va_A [(zOX1 h b_words b_endings), (zA gw (h 207) 60 b_wordKinds)] sz) :=
  z_met (by decide) rfl (Nat.le_of_ble_eq_true rfl) rfl (fun p e s m args below meth c A F hsz ls hl hP hD => w_X1_kindOf F h b_words b_endings x1 b_wordKinds u hm s.heap [] ls hP hD va_S.rf hl)
abbrev rmX1_learn : Room := { frames := 2, cells := 0, slots := 0, locals := 43 }
theorem iX1_learn_X1 : ∀ w ∈ wsX10, w ∈ wsX1_learn := by decide +kernel
def m_X1_learn_38 (x2 : Int) (x3 : Int) (x4 : Int) (x5 : Int) (b_wordKinds : Nat → Int) (b_counts : Nat → Int) (b_stepPrices : Nat → Int) (b_pairsOf : Nat → Int) (b_stepCosts : Nat → Int) (g0 : Nat → Int) (gn0 : Nat) : Option (Nat × (Int × (Nat → Int) × (Nat → Int) × (Nat → Int) × (Nat → Int))) :=
  gd (inI x5) <|
  gd (inI x2) <|
  if x5 ≤ x2 then
    vl (x5 + 1) fun x5_93 =>
    some (0, (x5_93, b_counts, b_stepPrices, b_pairsOf, b_stepCosts))
  else
    gd (0 ≤ (x5 - 1) ∧ (x5 - 1) < (gn0 : Int)) <|
    (m_X1_kindOf (g0 (Int.toNat (x5 - 1))) b_wordKinds).bind fun r_51 =>
    gd (0 ≤ x5 ∧ x5 < (gn0 : Int)) <|
    (m_X1_kindOf (g0 (Int.toNat x5)) b_wordKinds).bind fun r_62 =>
    vl ((r_51 * 9) + r_62) fun x7_66 =>
    gd (0 ≤ x7_66 ∧ x7_66 < 81) <|
    gd (0 ≤ x7_66 ∧ x7_66 < 81) <|
    vl (uz b_pairsOf (Int.toNat x7_66) ((b_pairsOf (Int.toNat x7_66)) + x4)) fun b_pairsOf_79 =>
    gd (0 ≤ x7_66 ∧ x7_66 < 81) <|
    (m_X1_priceStep x7_66 (b_stepPrices (Int.toNat x7_66)) b_stepPrices b_pairsOf_79 b_stepCosts).bind fun (b_stepPrices_90, b_stepCosts_90) =>
    vl (x5 + 1) fun x5_93_v2 =>
    some (0, (x5_93_v2, b_counts, b_stepPrices_90, b_pairsOf_79, b_stepCosts_90))
set_option maxHeartbeats 4000000 in
set_option maxRecDepth 100000 in
theorem w_X1_learn_38 (F : zF p s m args meth c A gw cX1_learn 8 none wsX1_learn yX1_learn) (h : Nat → Nat) (b_words : Int) (b_endings : Int) (ga0 : Nat) (gn0 : Nat) (hg0 : gn0 < 2147483648) (x2 : Int) (x3 : Int) (x4 : Int) (x5 : Int) (b_wordKinds : Nat → Int) (b_counts : Nat → Int) (b_stepPrices : Nat → Int) (b_pairsOf : Nat → Int) (b_stepCosts : Nat → Int) (g0 : Nat → Int) (u : Nat × (Int × (Nat → Int) × (Nat → Int) × (Nat → Int) × (Nat → Int))) (hm : m_X1_learn_38 x2 x3 x4 x5 b_wordKinds b_counts b_stepPrices b_pairsOf b_stepCosts g0 gn0 = some u) (H : Heap) (locs : List Loc) (ls : Array Slot) (hP : va_P gw.1 vwCl [(zOX1 h b_words b_endings), (zA gw (h 207) 60 b_wordKinds), (zA gw (h 209) 60 b_counts), (zA gw (h 216) 81 b_stepPrices), (zA gw (h 217) 81 b_pairsOf), (zA gw (h 218) 81 b_stepCosts), (zA gw ga0 gn0 g0)] H) (hD : va_D A [(zOX1 h b_words b_endings), (zA gw (h 207) 60 b_wordKinds), (zA gw (h 209) 60 b_counts), (zA gw (h 216) 81 b_stepPrices), (zA gw (h 217) 81 b_pairsOf), (zA gw (h 218) 81 b_stepCosts), (zA gw ga0 gn0 g0)]) (hS : va_S A s.heap H locs) (hl : lv_has ls 8 [(0, .ref (h 1)), (1, .ref ga0), (2, .int (zi x2)), (3, .int (zi x3)), (4, .int (zi x4)), (5, .int (zi x5))]) (k0 : u.1 = 0 → ∀ (H : Heap) (locs : List Loc) (ls : Array Slot), va_P gw.1 vwCl [(zOX1 h b_words b_endings), (zA gw (h 207) 60 b_wordKinds), (zA gw (h 209) 60 (u.2.2.1)), (zA gw (h 216) 81 (u.2.2.2.1)), (zA gw (h 217) 81 (u.2.2.2.2.1)), (zA gw (h 218) 81 (u.2.2.2.2.2)), (zA gw ga0 gn0 g0)] H → va_D A [(zOX1 h b_words b_endings), (zA gw (h 207) 60 b_wordKinds), (zA gw (h 209) 60 (u.2.2.1)), (zA gw (h 216) 81 (u.2.2.2.1)), (zA gw (h 217) 81 (u.2.2.2.2.1)), (zA gw (h 218) 81 (u.2.2.2.2.2)), (zA gw ga0 gn0 g0)] → va_S A s.heap H locs → lv_has ls 8 [(0, .ref (h 1)), (1, .ref ga0), (2, .int (zi x2)), (3, .int (zi x3)), (4, .int (zi x4)), (5, .int (zi (u.2.1)))] → W p l e rmX1_learn s m args below meth c H locs 0 0 Q (F0 m 3 ls [])) (k1 : u.1 = 1 → ∀ (H : Heap) (locs : List Loc) (ls : Array Slot), va_P gw.1 vwCl [(zOX1 h b_words b_endings), (zA gw (h 207) 60 b_wordKinds), (zA gw (h 209) 60 (u.2.2.1)), (zA gw (h 216) 81 (u.2.2.2.1)), (zA gw (h 217) 81 (u.2.2.2.2.1)), (zA gw (h 218) 81 (u.2.2.2.2.2)), (zA gw ga0 gn0 g0)] H → va_D A [(zOX1 h b_words b_endings), (zA gw (h 207) 60 b_wordKinds), (zA gw (h 209) 60 (u.2.2.1)), (zA gw (h 216) 81 (u.2.2.2.1)), (zA gw (h 217) 81 (u.2.2.2.2.1)), (zA gw (h 218) 81 (u.2.2.2.2.2)), (zA gw ga0 gn0 g0)] → va_S A s.heap H locs → lv_has ls 8 [] → W p l e rmX1_learn s m args below meth c H locs 0 0 Q (F0 m 99 ls [])) : W p l e rmX1_learn s m args below meth c H locs 0 0 Q (F0 m 38 ls []) := by
  obtain ⟨hx, hb, hml, hr, hown, hts, hlk, hK, hA, hnm⟩ := id F
  have hown : s.vm.findClass RX1 = some m.cls := hown
  unfold m_X1_learn_38 at hm
  refine lv_iload hx hb dX1_learn_38 (lv_at hl 5 rfl) ?_
  refine lv_iload_n hx hb dX1_learn_40 rfl (lv_at hl 2 rfl) ?_
  obtain ⟨g_41, hm⟩ := gd_e hm
  obtain ⟨g_41_v2, hm⟩ := gd_e hm
  refine z_icmp_le (tgt := 93) hx hb g_41 g_41_v2 dX1_learn_41 (by decide) (fun c_41 => ?_) (fun c_41 => ?_)
  · have hm := if_p hm c_41
    obtain ⟨x5_93, e_x5_93, hm⟩ := vl_e hm
    refine lv_iinc (v := zi x5_93) (lv' := [(5, .int (zi x5_93)), (0, .ref (h 1)), (1, .ref ga0), (2, .int (zi x2)), (3, .int (zi x3)), (4, .int (zi x4))]) hx hb dX1_learn_93 hl (k := 5) rfl (by rw [e_x5_93]; exact zi_add _ _) (by decide) rfl (fun ls hl => ?_)
    refine lv_goto (tgt := 3) hx hb dX1_learn_96 (by decide) ?_
    cases hm
    exact k0 rfl _ _ _ hP hD hS (lv_sub hl [1, 2, 3, 4, 5, 0] rfl)
  · have hm := if_n hm c_41
    refine lv_aload_n hx hb dX1_learn_44 rfl (lv_at hl 0 rfl) ?_
    refine lv_aload_n hx hb dX1_learn_45 rfl (lv_at hl 1 rfl) ?_
    refine lv_iload hx hb dX1_learn_46 (lv_at hl 5 rfl) ?_
    refine lv_iconst (v := zi 1) hx hb dX1_learn_48 rfl ?_
    refine z_isub hx hb dX1_learn_49 ?_
    obtain ⟨g_50, hm⟩ := gd_e hm
    refine z_iald hx hb hK hP 6 rfl g_50 (Nat.le_of_lt hg0) dX1_learn_50 ?_
    obtain ⟨r_51, hr_51, hm⟩ := bd_e hm
    refine z_callV (As := [.int (zi (g0 (Int.toNat (x5 - 1))))]) (rest := []) (wr := [(zA gw (h 209) 60 b_counts), (zA gw (h 216) 81 b_stepPrices), (zA gw (h 217) 81 b_pairsOf), (zA gw (h 218) 81 b_stepCosts), (zA gw ga0 gn0 g0)]) (ws' := [(zOX1 h b_words b_endings), (zA gw (h 207) 60 b_wordKinds), (zA gw (h 209) 60 b_counts), (zA gw (h 216) 81 b_stepPrices), (zA gw (h 217) 81 b_pairsOf), (zA gw (h 218) 81 b_stepCosts), (zA gw ga0 gn0 g0)]) ⟨hx, hb, hml, hown, hts⟩ (c_X1_kindOf l gw h b_words b_endings (g0 (Int.toNat (x5 - 1))) b_wordKinds r_51 hr_51 H.size) (cwV 1 hts gX1_learn_X1_kindOf rfl rfl rfl (by decide +kernel) ⟨Nat.le_of_ble_eq_true rfl, Nat.le_of_ble_eq_true rfl⟩) hK hP hD hS hA [0, 1] [2, 3, 4, 5, 6] [5, 6, 0, 1, 2, 3, 4] (by decide) rfl rfl (by decide) (by decide) rfl (by decide) 0 1 rfl rfl rfl rfl hl.1 (Nat.le_of_ble_eq_true rfl) dX1_learn_51 ⟨Nat.zero_le _, Nat.zero_le _⟩ rfl (fun H locs hP hD hS => ?_)
    have hP : va_P gw.1 vwCl [(zOX1 h b_words b_endings), (zA gw (h 207) 60 b_wordKinds), (zA gw (h 209) 60 b_counts), (zA gw (h 216) 81 b_stepPrices), (zA gw (h 217) 81 b_pairsOf), (zA gw (h 218) 81 b_stepCosts), (zA gw ga0 gn0 g0)] H := hP
    have hD : va_D A [(zOX1 h b_words b_endings), (zA gw (h 207) 60 b_wordKinds), (zA gw (h 209) 60 b_counts), (zA gw (h 216) 81 b_stepPrices), (zA gw (h 217) 81 b_pairsOf), (zA gw (h 218) 81 b_stepCosts), (zA gw ga0 gn0 g0)] := hD
    refine W.eq (g2 := F0 m 54 ls [.int (zi r_51)]) rfl ?_
    refine lv_bipush (v := zi 9) hx hb dX1_learn_54 (by decide) ?_
    refine z_imul hx hb dX1_learn_56 ?_
    refine lv_aload_n hx hb dX1_learn_57 rfl (lv_at hl 0 rfl) ?_
    refine lv_aload_n hx hb dX1_learn_58 rfl (lv_at hl 1 rfl) ?_
    refine lv_iload hx hb dX1_learn_59 (lv_at hl 5 rfl) ?_
    obtain ⟨g_61, hm⟩ := gd_e hm
    refine z_iald hx hb hK hP 6 rfl g_61 (Nat.le_of_lt hg0) dX1_learn_61 ?_
    obtain ⟨r_62, hr_62, hm⟩ := bd_e hm
    refine z_callV (As := [.int (zi (g0 (Int.toNat x5)))]) (rest := [.int (zi (r_51 * 9))]) (wr := [(zA gw (h 209) 60 b_counts), (zA gw (h 216) 81 b_stepPrices), (zA gw (h 217) 81 b_pairsOf), (zA gw (h 218) 81 b_stepCosts), (zA gw ga0 gn0 g0)]) (ws' := [(zOX1 h b_words b_endings), (zA gw (h 207) 60 b_wordKinds), (zA gw (h 209) 60 b_counts), (zA gw (h 216) 81 b_stepPrices), (zA gw (h 217) 81 b_pairsOf), (zA gw (h 218) 81 b_stepCosts), (zA gw ga0 gn0 g0)]) ⟨hx, hb, hml, hown, hts⟩ (c_X1_kindOf l gw h b_words b_endings (g0 (Int.toNat x5)) b_wordKinds r_62 hr_62 H.size) (cwV 1 hts gX1_learn_X1_kindOf rfl rfl rfl (by decide +kernel) ⟨Nat.le_of_ble_eq_true rfl, Nat.le_of_ble_eq_true rfl⟩) hK hP hD hS hA [0, 1] [2, 3, 4, 5, 6] [5, 6, 0, 1, 2, 3, 4] (by decide) rfl rfl (by decide) (by decide) rfl (by decide) 0 1 rfl rfl rfl rfl hl.1 (Nat.le_of_ble_eq_true rfl) dX1_learn_62 ⟨Nat.zero_le _, Nat.zero_le _⟩ rfl (fun H locs hP hD hS => ?_)
    have hP : va_P gw.1 vwCl [(zOX1 h b_words b_endings), (zA gw (h 207) 60 b_wordKinds), (zA gw (h 209) 60 b_counts), (zA gw (h 216) 81 b_stepPrices), (zA gw (h 217) 81 b_pairsOf), (zA gw (h 218) 81 b_stepCosts), (zA gw ga0 gn0 g0)] H := hP
    have hD : va_D A [(zOX1 h b_words b_endings), (zA gw (h 207) 60 b_wordKinds), (zA gw (h 209) 60 b_counts), (zA gw (h 216) 81 b_stepPrices), (zA gw (h 217) 81 b_pairsOf), (zA gw (h 218) 81 b_stepCosts), (zA gw ga0 gn0 g0)] := hD
    refine W.eq (g2 := F0 m 65 ls [.int (zi r_62), .int (zi (r_51 * 9))]) rfl ?_
    refine z_iadd hx hb dX1_learn_65 ?_
    obtain ⟨x7_66, e_x7_66, hm⟩ := vl_e hm
    refine z_top e_x7_66 ?_
    refine lv_istore (lv' := [(7, .int (zi x7_66)), (0, .ref (h 1)), (1, .ref ga0), (2, .int (zi x2)), (3, .int (zi x3)), (4, .int (zi x4)), (5, .int (zi x5))]) hx hb dX1_learn_66 hl (by decide) rfl (fun ls hl => ?_)
    refine lv_aload_n hx hb dX1_learn_68 rfl (lv_at hl 1 rfl) ?_
    refine va_get (D := gw.1) (ci := 1) (v := .ref (h 217)) (C := RX1) (T := TX1) (N := 19) hx hb hts iX1_learn_X1 hown hK.1 hP 0 rfl rfl 17 (by decide) (hts (.fieldLink RX1 58 "SoundLine$Book" "pairsOf" "[I") (by decide +kernel)) (fun _ h9 => h9) rfl dX1_learn_69 ?_
    refine lv_iload hx hb dX1_learn_72 (lv_at hl 0 rfl) ?_
    refine lv_dup2_11 hx hb dX1_learn_74 rfl rfl ?_
    obtain ⟨g_75, hm⟩ := gd_e hm
    refine z_iald hx hb hK hP 4 rfl g_75 (by decide) dX1_learn_75 ?_
    refine lv_iload hx hb dX1_learn_76 (lv_at hl 5 rfl) ?_
    refine z_iadd hx hb dX1_learn_78 ?_
    obtain ⟨g_79, hm⟩ := gd_e hm
    obtain ⟨b_pairsOf_79, e_b_pairsOf_79, hm⟩ := vl_e hm
    refine z_iast hx hb hK hP hD hS 4 rfl g_79 (by decide) e_b_pairsOf_79 dX1_learn_79 (fun H locs hP hD hS => ?_)
    have hP : va_P gw.1 vwCl [(zOX1 h b_words b_endings), (zA gw (h 207) 60 b_wordKinds), (zA gw (h 209) 60 b_counts), (zA gw (h 216) 81 b_stepPrices), (zA gw (h 217) 81 b_pairsOf_79), (zA gw (h 218) 81 b_stepCosts), (zA gw ga0 gn0 g0)] H := hP
    have hD : va_D A [(zOX1 h b_words b_endings), (zA gw (h 207) 60 b_wordKinds), (zA gw (h 209) 60 b_counts), (zA gw (h 216) 81 b_stepPrices), (zA gw (h 217) 81 b_pairsOf_79), (zA gw (h 218) 81 b_stepCosts), (zA gw ga0 gn0 g0)] := hD
    refine lv_aload_n hx hb dX1_learn_80 rfl (lv_at hl 1 rfl) ?_
    refine lv_iload hx hb dX1_learn_81 (lv_at hl 0 rfl) ?_
    refine lv_aload_n hx hb dX1_learn_83 rfl (lv_at hl 1 rfl) ?_
    refine va_get (D := gw.1) (ci := 1) (v := .ref (h 216)) (C := RX1) (T := TX1) (N := 19) hx hb hts iX1_learn_X1 hown hK.1 hP 0 rfl rfl 16 (by decide) (hts (.fieldLink RX1 55 "SoundLine$Book" "stepPrices" "[I") (by decide +kernel)) (fun _ h9 => h9) rfl dX1_learn_84 ?_
    refine lv_iload hx hb dX1_learn_87 (lv_at hl 0 rfl) ?_
    obtain ⟨g_89, hm⟩ := gd_e hm
    refine z_iald hx hb hK hP 3 rfl g_89 (by decide) dX1_learn_89 ?_
    obtain ⟨u_90, hu_90, hm⟩ := bd_e hm
    obtain ⟨b_stepPrices_90, b_stepCosts_90⟩ := u_90
    refine z_callV (As := [.int (zi x7_66), .int (zi (b_stepPrices (Int.toNat x7_66)))]) (rest := []) (wr := [(zA gw (h 207) 60 b_wordKinds), (zA gw (h 209) 60 b_counts), (zA gw ga0 gn0 g0)]) (ws' := [(zOX1 h b_words b_endings), (zA gw (h 207) 60 b_wordKinds), (zA gw (h 209) 60 b_counts), (zA gw (h 216) 81 b_stepPrices_90), (zA gw (h 217) 81 b_pairsOf_79), (zA gw (h 218) 81 b_stepCosts_90), (zA gw ga0 gn0 g0)]) ⟨hx, hb, hml, hown, hts⟩ (c_X1_priceStep l gw h b_words b_endings x7_66 (b_stepPrices (Int.toNat x7_66)) b_stepPrices b_pairsOf_79 b_stepCosts _ hu_90 H.size) (cwV 2 hts gX1_learn_X1_priceStep rfl rfl rfl (by decide +kernel) ⟨Nat.le_of_ble_eq_true rfl, Nat.le_of_ble_eq_true rfl⟩) hK hP hD hS hA [0, 3, 4, 5] [1, 2, 6] [3, 0, 1, 4, 5, 6, 2] (by decide) rfl rfl (by decide) (by decide) rfl (by decide) 0 1 rfl rfl rfl rfl hl.1 (Nat.le_of_ble_eq_true rfl) dX1_learn_90 ⟨Nat.zero_le _, Nat.zero_le _⟩ rfl (fun H locs hP hD hS => ?_)
    have hP : va_P gw.1 vwCl [(zOX1 h b_words b_endings), (zA gw (h 207) 60 b_wordKinds), (zA gw (h 209) 60 b_counts), (zA gw (h 216) 81 b_stepPrices_90), (zA gw (h 217) 81 b_pairsOf_79), (zA gw (h 218) 81 b_stepCosts_90), (zA gw ga0 gn0 g0)] H := hP
    have hD : va_D A [(zOX1 h b_words b_endings), (zA gw (h 207) 60 b_wordKinds), (zA gw (h 209) 60 b_counts), (zA gw (h 216) 81 b_stepPrices_90), (zA gw (h 217) 81 b_pairsOf_79), (zA gw (h 218) 81 b_stepCosts_90), (zA gw ga0 gn0 g0)] := hD
    refine W.eq (g2 := F0 m 93 ls []) rfl ?_
    obtain ⟨x5_93_v2, e_x5_93_v2, hm⟩ := vl_e hm
    refine lv_iinc (v := zi x5_93_v2) (lv' := [(5, .int (zi x5_93_v2)), (7, .int (zi x7_66)), (0, .ref (h 1)), (1, .ref ga0), (2, .int (zi x2)), (3, .int (zi x3)), (4, .int (zi x4))]) hx hb dX1_learn_93 hl (k := 6) rfl (by rw [e_x5_93_v2]; exact zi_add _ _) (by decide) rfl (fun ls hl => ?_)
    refine lv_goto (tgt := 3) hx hb dX1_learn_96 (by decide) ?_
    cases hm
    exact k0 rfl _ _ _ hP hD hS (lv_sub hl [2, 3, 4, 5, 6, 0] rfl)
def m_X1_learn_3 (x2 : Int) (x3 : Int) (x4 : Int) (x5 : Int) (b_wordKinds : Nat → Int) (b_counts : Nat → Int) (b_stepPrices : Nat → Int) (b_pairsOf : Nat → Int) (b_stepCosts : Nat → Int) (g0 : Nat → Int) (gn0 : Nat) : Option (Nat × (Int × (Nat → Int) × (Nat → Int) × (Nat → Int) × (Nat → Int))) :=
  gd (inI x5) <|
  gd (inI (x2 + x3)) <|
  if (x2 + x3) ≤ x5 then
    some (1, (x5, b_counts, b_stepPrices, b_pairsOf, b_stepCosts))
  else
    gd (0 ≤ x5 ∧ x5 < (gn0 : Int)) <|
    (m_X8_wordOf (g0 (Int.toNat x5))).bind fun r_15 =>
    gd (inI r_15) <|
    if r_15 = (-1) then
      m_X1_learn_38 x2 x3 x4 x5 b_wordKinds b_counts b_stepPrices b_pairsOf b_stepCosts g0 gn0
    else
      gd (0 ≤ r_15 ∧ r_15 < 60) <|
      gd (0 ≤ r_15 ∧ r_15 < 60) <|
      vl (uz b_counts (Int.toNat r_15) ((b_counts (Int.toNat r_15)) + x4)) fun b_counts_37 =>
      m_X1_learn_38 x2 x3 x4 x5 b_wordKinds b_counts_37 b_stepPrices b_pairsOf b_stepCosts g0 gn0
set_option maxHeartbeats 4000000 in
set_option maxRecDepth 100000 in
theorem w_X1_learn_3 (F : zF p s m args meth c A gw cX1_learn 8 none wsX1_learn yX1_learn) (h : Nat → Nat) (b_words : Int) (b_endings : Int) (ga0 : Nat) (gn0 : Nat) (hg0 : gn0 < 2147483648)  (x2 : Int) (x3 : Int) (x4 : Int) (x5 : Int) (b_wordKinds : Nat → Int) (b_counts : Nat → Int) (b_stepPrices : Nat → Int) (b_pairsOf : Nat → Int) (b_stepCosts : Nat → Int) (g0 : Nat → Int) (u : Nat × (Int × (Nat → Int) × (Nat → Int) × (Nat → Int) × (Nat → Int))) (hm : m_X1_learn_3 x2 x3 x4 x5 b_wordKinds b_counts b_stepPrices b_pairsOf b_stepCosts g0 gn0 = some u) (H : Heap) (locs : List Loc) (ls : Array Slot) (hP : va_P gw.1 vwCl [(zOX1 h b_words b_endings), (zA gw (h 207) 60 b_wordKinds), (zA gw (h 209) 60 b_counts), (zA gw (h 216) 81 b_stepPrices), (zA gw (h 217) 81 b_pairsOf), (zA gw (h 218) 81 b_stepCosts), (zA gw ga0 gn0 g0)] H) (hD : va_D A [(zOX1 h b_words b_endings), (zA gw (h 207) 60 b_wordKinds), (zA gw (h 209) 60 b_counts), (zA gw (h 216) 81 b_stepPrices), (zA gw (h 217) 81 b_pairsOf), (zA gw (h 218) 81 b_stepCosts), (zA gw ga0 gn0 g0)]) (hS : va_S A s.heap H locs) (hl : lv_has ls 8 [(0, .ref (h 1)), (1, .ref ga0), (2, .int (zi x2)), (3, .int (zi x3)), (4, .int (zi x4)), (5, .int (zi x5))]) (k0 : u.1 = 0 → ∀ (H : Heap) (locs : List Loc) (ls : Array Slot), va_P gw.1 vwCl [(zOX1 h b_words b_endings), (zA gw (h 207) 60 b_wordKinds), (zA gw (h 209) 60 (u.2.2.1)), (zA gw (h 216) 81 (u.2.2.2.1)), (zA gw (h 217) 81 (u.2.2.2.2.1)), (zA gw (h 218) 81 (u.2.2.2.2.2)), (zA gw ga0 gn0 g0)] H → va_D A [(zOX1 h b_words b_endings), (zA gw (h 207) 60 b_wordKinds), (zA gw (h 209) 60 (u.2.2.1)), (zA gw (h 216) 81 (u.2.2.2.1)), (zA gw (h 217) 81 (u.2.2.2.2.1)), (zA gw (h 218) 81 (u.2.2.2.2.2)), (zA gw ga0 gn0 g0)] → va_S A s.heap H locs → lv_has ls 8 [(0, .ref (h 1)), (1, .ref ga0), (2, .int (zi x2)), (3, .int (zi x3)), (4, .int (zi x4)), (5, .int (zi (u.2.1)))] → W p l e rmX1_learn s m args below meth c H locs 0 0 Q (F0 m 3 ls [])) (k1 : u.1 = 1 → ∀ (H : Heap) (locs : List Loc) (ls : Array Slot), va_P gw.1 vwCl [(zOX1 h b_words b_endings), (zA gw (h 207) 60 b_wordKinds), (zA gw (h 209) 60 (u.2.2.1)), (zA gw (h 216) 81 (u.2.2.2.1)), (zA gw (h 217) 81 (u.2.2.2.2.1)), (zA gw (h 218) 81 (u.2.2.2.2.2)), (zA gw ga0 gn0 g0)] H → va_D A [(zOX1 h b_words b_endings), (zA gw (h 207) 60 b_wordKinds), (zA gw (h 209) 60 (u.2.2.1)), (zA gw (h 216) 81 (u.2.2.2.1)), (zA gw (h 217) 81 (u.2.2.2.2.1)), (zA gw (h 218) 81 (u.2.2.2.2.2)), (zA gw ga0 gn0 g0)] → va_S A s.heap H locs → lv_has ls 8 [] → W p l e rmX1_learn s m args below meth c H locs 0 0 Q (F0 m 99 ls [])) : W p l e rmX1_learn s m args below meth c H locs 0 0 Q (F0 m 3 ls []) := by
  obtain ⟨hx, hb, hml, hr, hown, hts, hlk, hK, hA, hnm⟩ := id F
  have hown : s.vm.findClass RX1 = some m.cls := hown
  unfold m_X1_learn_3 at hm
  refine lv_iload hx hb dX1_learn_3 (lv_at hl 5 rfl) ?_
  refine lv_iload_n hx hb dX1_learn_5 rfl (lv_at hl 2 rfl) ?_
  refine lv_iload_n hx hb dX1_learn_6 rfl (lv_at hl 3 rfl) ?_
  refine z_iadd hx hb dX1_learn_7 ?_
  obtain ⟨g_8, hm⟩ := gd_e hm
  obtain ⟨g_8_v2, hm⟩ := gd_e hm
  refine z_icmp_ge (tgt := 99) hx hb g_8 g_8_v2 dX1_learn_8 (by decide) (fun c_8 => ?_) (fun c_8 => ?_)
  · have hm := if_p hm c_8
    cases hm
    exact k1 rfl _ _ _ hP hD hS (lv_sub hl [] rfl)
  · have hm := if_n hm c_8
    refine lv_aload_n hx hb dX1_learn_11 rfl (lv_at hl 1 rfl) ?_
    refine lv_iload hx hb dX1_learn_12 (lv_at hl 5 rfl) ?_
    obtain ⟨g_14, hm⟩ := gd_e hm
    refine z_iald hx hb hK hP 6 rfl g_14 (Nat.le_of_lt hg0) dX1_learn_14 ?_
    obtain ⟨r_15, hr_15, hm⟩ := bd_e hm
    refine z_callSN (As := [.int (zi (g0 (Int.toNat x5)))]) (rest := []) (wr := [(zOX1 h b_words b_endings), (zA gw (h 207) 60 b_wordKinds), (zA gw (h 209) 60 b_counts), (zA gw (h 216) 81 b_stepPrices), (zA gw (h 217) 81 b_pairsOf), (zA gw (h 218) 81 b_stepCosts), (zA gw ga0 gn0 g0)]) (ws' := [(zOX1 h b_words b_endings), (zA gw (h 207) 60 b_wordKinds), (zA gw (h 209) 60 b_counts), (zA gw (h 216) 81 b_stepPrices), (zA gw (h 217) 81 b_pairsOf), (zA gw (h 218) 81 b_stepCosts), (zA gw ga0 gn0 g0)]) ⟨hx, hb, hml, hown, hts⟩ (c_X8_wordOf l gw h (g0 (Int.toNat x5)) r_15 hr_15 H.size) ⟨va_cnB 1 hts gX1_learn_X8_wordOf_n75 rfl rfl rfl (hK.2.2 (RX1, 75, yX8_wordOf, RX8) (List.mem_of_getElem? (i := 34) rfl)) (hts (.initialized RX8) (by decide +kernel)) (by decide +kernel) ⟨Nat.le_of_ble_eq_true rfl, Nat.le_of_ble_eq_true rfl⟩, (hts (.static yX8_wordOf) (by decide +kernel)), trivial⟩ hK hP hD hS hA [] [0, 1, 2, 3, 4, 5, 6] [0, 1, 2, 3, 4, 5, 6] (by decide) rfl rfl (by decide) (by decide) rfl (by decide) rfl hl.1 (Nat.le_of_ble_eq_true rfl) dX1_learn_15 ⟨Nat.zero_le _, Nat.zero_le _⟩ rfl (fun H locs hP hD hS => ?_)
    have hP : va_P gw.1 vwCl [(zOX1 h b_words b_endings), (zA gw (h 207) 60 b_wordKinds), (zA gw (h 209) 60 b_counts), (zA gw (h 216) 81 b_stepPrices), (zA gw (h 217) 81 b_pairsOf), (zA gw (h 218) 81 b_stepCosts), (zA gw ga0 gn0 g0)] H := hP
    have hD : va_D A [(zOX1 h b_words b_endings), (zA gw (h 207) 60 b_wordKinds), (zA gw (h 209) 60 b_counts), (zA gw (h 216) 81 b_stepPrices), (zA gw (h 217) 81 b_pairsOf), (zA gw (h 218) 81 b_stepCosts), (zA gw ga0 gn0 g0)] := hD
    refine W.eq (g2 := F0 m 18 ls [.int (zi r_15)]) rfl ?_
    refine lv_istore (lv' := [(6, .int (zi r_15)), (0, .ref (h 1)), (1, .ref ga0), (2, .int (zi x2)), (3, .int (zi x3)), (4, .int (zi x4)), (5, .int (zi x5))]) hx hb dX1_learn_18 hl (by decide) rfl (fun ls hl => ?_)
    refine lv_iload hx hb dX1_learn_20 (lv_at hl 0 rfl) ?_
    refine lv_iconst (v := zi (-1)) hx hb dX1_learn_22 rfl ?_
    obtain ⟨g_23, hm⟩ := gd_e hm
    refine z_icmp_eq (tgt := 38) hx hb g_23 (by decide) dX1_learn_23 (by decide) (fun c_23 => ?_) (fun c_23 => ?_)
    · have hm := if_p hm c_23
      exact w_X1_learn_38 F h b_words b_endings ga0 gn0 hg0 x2 x3 x4 x5 b_wordKinds b_counts b_stepPrices b_pairsOf b_stepCosts g0 _ hm _ _ _ hP hD hS (lv_sub hl [1, 2, 3, 4, 5, 6] rfl) k0 k1
    · have hm := if_n hm c_23
      refine lv_aload_n hx hb dX1_learn_26 rfl (lv_at hl 1 rfl) ?_
      refine va_get (D := gw.1) (ci := 1) (v := .ref (h 209)) (C := RX1) (T := TX1) (N := 19) hx hb hts iX1_learn_X1 hown hK.1 hP 0 rfl rfl 9 (by decide) (hts (.fieldLink RX1 37 "SoundLine$Book" "counts" "[I") (by decide +kernel)) (fun _ h9 => h9) rfl dX1_learn_27 ?_
      refine lv_iload hx hb dX1_learn_30 (lv_at hl 0 rfl) ?_
      refine lv_dup2_11 hx hb dX1_learn_32 rfl rfl ?_
      obtain ⟨g_33, hm⟩ := gd_e hm
      refine z_iald hx hb hK hP 2 rfl g_33 (by decide) dX1_learn_33 ?_
      refine lv_iload hx hb dX1_learn_34 (lv_at hl 5 rfl) ?_
      refine z_iadd hx hb dX1_learn_36 ?_
      obtain ⟨g_37, hm⟩ := gd_e hm
      obtain ⟨b_counts_37, e_b_counts_37, hm⟩ := vl_e hm
      refine z_iast hx hb hK hP hD hS 2 rfl g_37 (by decide) e_b_counts_37 dX1_learn_37 (fun H locs hP hD hS => ?_)
      have hP : va_P gw.1 vwCl [(zOX1 h b_words b_endings), (zA gw (h 207) 60 b_wordKinds), (zA gw (h 209) 60 b_counts_37), (zA gw (h 216) 81 b_stepPrices), (zA gw (h 217) 81 b_pairsOf), (zA gw (h 218) 81 b_stepCosts), (zA gw ga0 gn0 g0)] H := hP
      have hD : va_D A [(zOX1 h b_words b_endings), (zA gw (h 207) 60 b_wordKinds), (zA gw (h 209) 60 b_counts_37), (zA gw (h 216) 81 b_stepPrices), (zA gw (h 217) 81 b_pairsOf), (zA gw (h 218) 81 b_stepCosts), (zA gw ga0 gn0 g0)] := hD
      exact w_X1_learn_38 F h b_words b_endings ga0 gn0 hg0 x2 x3 x4 x5 b_wordKinds b_counts_37 b_stepPrices b_pairsOf b_stepCosts g0 _ hm _ _ _ hP hD hS (lv_sub hl [1, 2, 3, 4, 5, 6] rfl) k0 k1
set_option maxHeartbeats 4000000 in
theorem l_X1_learn_3 (F : zF p s m args meth c A gw cX1_learn 8 none wsX1_learn yX1_learn) (h : Nat → Nat) (b_words : Int) (b_endings : Int) (ga0 : Nat) (gn0 : Nat) (hg0 : gn0 < 2147483648)  (x2 : Int) (x3 : Int) (x4 : Int) (b_wordKinds : Nat → Int) (g0 : Nat → Int) (n : Nat) (a : Int × (Nat → Int) × (Nat → Int) × (Nat → Int) × (Nat → Int)) (u : Nat × (Int × (Nat → Int) × (Nat → Int) × (Nat → Int) × (Nat → Int))) (hm : zloop (fun a => m_X1_learn_3 x2 x3 x4 a.1 b_wordKinds a.2.1 a.2.2.1 a.2.2.2.1 a.2.2.2.2 g0 gn0) n a = some u) (k1 : u.1 = 1 → ∀ (H : Heap) (locs : List Loc) (ls : Array Slot), va_P gw.1 vwCl [(zOX1 h b_words b_endings), (zA gw (h 207) 60 b_wordKinds), (zA gw (h 209) 60 (u.2.2.1)), (zA gw (h 216) 81 (u.2.2.2.1)), (zA gw (h 217) 81 (u.2.2.2.2.1)), (zA gw (h 218) 81 (u.2.2.2.2.2)), (zA gw ga0 gn0 g0)] H → va_D A [(zOX1 h b_words b_endings), (zA gw (h 207) 60 b_wordKinds), (zA gw (h 209) 60 (u.2.2.1)), (zA gw (h 216) 81 (u.2.2.2.1)), (zA gw (h 217) 81 (u.2.2.2.2.1)), (zA gw (h 218) 81 (u.2.2.2.2.2)), (zA gw ga0 gn0 g0)] → va_S A s.heap H locs → lv_has ls 8 [] → W p l e rmX1_learn s m args below meth c H locs 0 0 Q (F0 m 99 ls [])) (H : Heap) (locs : List Loc) (ls : Array Slot) (hP : va_P gw.1 vwCl [(zOX1 h b_words b_endings), (zA gw (h 207) 60 b_wordKinds), (zA gw (h 209) 60 (a.2.1)), (zA gw (h 216) 81 (a.2.2.1)), (zA gw (h 217) 81 (a.2.2.2.1)), (zA gw (h 218) 81 (a.2.2.2.2)), (zA gw ga0 gn0 g0)] H) (hD : va_D A [(zOX1 h b_words b_endings), (zA gw (h 207) 60 b_wordKinds), (zA gw (h 209) 60 (a.2.1)), (zA gw (h 216) 81 (a.2.2.1)), (zA gw (h 217) 81 (a.2.2.2.1)), (zA gw (h 218) 81 (a.2.2.2.2)), (zA gw ga0 gn0 g0)]) (hS : va_S A s.heap H locs) (hl : lv_has ls 8 [(0, .ref (h 1)), (1, .ref ga0), (2, .int (zi x2)), (3, .int (zi x3)), (4, .int (zi x4)), (5, .int (zi (a.1)))]) : W p l e rmX1_learn s m args below meth c H locs 0 0 Q (F0 m 3 ls []) := by
  refine zloop_ind (P := fun a => ∀ (H : Heap) (locs : List Loc) (ls : Array Slot), va_P gw.1 vwCl [(zOX1 h b_words b_endings), (zA gw (h 207) 60 b_wordKinds), (zA gw (h 209) 60 (a.2.1)), (zA gw (h 216) 81 (a.2.2.1)), (zA gw (h 217) 81 (a.2.2.2.1)), (zA gw (h 218) 81 (a.2.2.2.2)), (zA gw ga0 gn0 g0)] H → va_D A [(zOX1 h b_words b_endings), (zA gw (h 207) 60 b_wordKinds), (zA gw (h 209) 60 (a.2.1)), (zA gw (h 216) 81 (a.2.2.1)), (zA gw (h 217) 81 (a.2.2.2.1)), (zA gw (h 218) 81 (a.2.2.2.2)), (zA gw ga0 gn0 g0)] → va_S A s.heap H locs → lv_has ls 8 [(0, .ref (h 1)), (1, .ref ga0), (2, .int (zi x2)), (3, .int (zi x3)), (4, .int (zi x4)), (5, .int (zi (a.1)))] → W p l e rmX1_learn s m args below meth c H locs 0 0 Q (F0 m 3 ls [])) (K := fun w => (w.1 = 1 → ∀ (H : Heap) (locs : List Loc) (ls : Array Slot), va_P gw.1 vwCl [(zOX1 h b_words b_endings), (zA gw (h 207) 60 b_wordKinds), (zA gw (h 209) 60 (w.2.2.1)), (zA gw (h 216) 81 (w.2.2.2.1)), (zA gw (h 217) 81 (w.2.2.2.2.1)), (zA gw (h 218) 81 (w.2.2.2.2.2)), (zA gw ga0 gn0 g0)] H → va_D A [(zOX1 h b_words b_endings), (zA gw (h 207) 60 b_wordKinds), (zA gw (h 209) 60 (w.2.2.1)), (zA gw (h 216) 81 (w.2.2.2.1)), (zA gw (h 217) 81 (w.2.2.2.2.1)), (zA gw (h 218) 81 (w.2.2.2.2.2)), (zA gw ga0 gn0 g0)] → va_S A s.heap H locs → lv_has ls 8 [] → W p l e rmX1_learn s m args below meth c H locs 0 0 Q (F0 m 99 ls []))) (fun a w hb h0 hk H locs ls hP hD hS hl => ?_) n a u hm (fun _ => k1) H locs ls hP hD hS hl
  exact w_X1_learn_3 F h b_words b_endings ga0 gn0 hg0  x2 x3 x4 a.1 b_wordKinds a.2.1 a.2.2.1 a.2.2.2.1 a.2.2.2.2 g0 w hb H locs ls hP hD hS hl (fun z H locs ls hP hD hS hl => h0 z H locs ls hP hD hS hl) (fun z => (hk (by rw [z]; decide)) z)
def m_X1_learn (x2 : Int) (x3 : Int) (x4 : Int) (b_wordKinds : Nat → Int) (b_counts : Nat → Int) (b_stepPrices : Nat → Int) (b_pairsOf : Nat → Int) (b_stepCosts : Nat → Int) (g0 : Nat → Int) (gn0 : Nat) : Option ((Nat → Int) × (Nat → Int) × (Nat → Int) × (Nat → Int)) :=
  (zloop (fun a => m_X1_learn_3 x2 x3 x4 a.1 b_wordKinds a.2.1 a.2.2.1 a.2.2.2.1 a.2.2.2.2 g0 gn0) FU (x2, b_counts, b_stepPrices, b_pairsOf, b_stepCosts)).bind fun (t_3, x5_3, b_counts_3, b_stepPrices_3, b_pairsOf_3, b_stepCosts_3) =>
  some (b_counts_3, b_stepPrices_3, b_pairsOf_3, b_stepCosts_3)
set_option maxHeartbeats 4000000 in
set_option maxRecDepth 100000 in
theorem w_X1_learn (F : zF p s m args meth c A gw cX1_learn 8 none wsX1_learn yX1_learn) (h : Nat → Nat) (b_words : Int) (b_endings : Int) (ga0 : Nat) (gn0 : Nat) (hg0 : gn0 < 2147483648) (x2 : Int) (x3 : Int) (x4 : Int) (b_wordKinds : Nat → Int) (b_counts : Nat → Int) (b_stepPrices : Nat → Int) (b_pairsOf : Nat → Int) (b_stepCosts : Nat → Int) (g0 : Nat → Int) (u : (Nat → Int) × (Nat → Int) × (Nat → Int) × (Nat → Int)) (hm : m_X1_learn x2 x3 x4 b_wordKinds b_counts b_stepPrices b_pairsOf b_stepCosts g0 gn0 = some u) (H : Heap) (locs : List Loc) (ls : Array Slot) (hP : va_P gw.1 vwCl [(zOX1 h b_words b_endings), (zA gw (h 207) 60 b_wordKinds), (zA gw (h 209) 60 b_counts), (zA gw (h 216) 81 b_stepPrices), (zA gw (h 217) 81 b_pairsOf), (zA gw (h 218) 81 b_stepCosts), (zA gw ga0 gn0 g0)] H) (hD : va_D A [(zOX1 h b_words b_endings), (zA gw (h 207) 60 b_wordKinds), (zA gw (h 209) 60 b_counts), (zA gw (h 216) 81 b_stepPrices), (zA gw (h 217) 81 b_pairsOf), (zA gw (h 218) 81 b_stepCosts), (zA gw ga0 gn0 g0)]) (hS : va_S A s.heap H locs) (hl : lv_has ls 8 [(0, .ref (h 1)), (1, .ref ga0), (2, .int (zi x2)), (3, .int (zi x3)), (4, .int (zi x4))]) : W p l e rmX1_learn s m args below meth c H locs 0 0 (MQ below (zQ gw none [(zOX1 h b_words b_endings), (zA gw (h 207) 60 b_wordKinds), (zA gw (h 209) 60 (u.1)), (zA gw (h 216) 81 (u.2.1)), (zA gw (h 217) 81 (u.2.2.1)), (zA gw (h 218) 81 (u.2.2.2)), (zA gw ga0 gn0 g0)] A) args s 0 0 A) (F0 m 0 ls []) := by
  obtain ⟨hx, hb, hml, hr, hown, hts, hlk, hK, hA, hnm⟩ := id F
  have hown : s.vm.findClass RX1 = some m.cls := hown
  unfold m_X1_learn at hm
  refine lv_iload_n hx hb dX1_learn_0 rfl (lv_at hl 2 rfl) ?_
  refine lv_istore (lv' := [(5, .int (zi x2)), (0, .ref (h 1)), (1, .ref ga0), (2, .int (zi x2)), (3, .int (zi x3)), (4, .int (zi x4))]) hx hb dX1_learn_1 hl (by decide) rfl (fun ls hl => ?_)
  obtain ⟨u_3, hu_3, hm⟩ := bd_e hm
  obtain ⟨t_3, x5_3, b_counts_3, b_stepPrices_3, b_pairsOf_3, b_stepCosts_3⟩ := u_3
  refine l_X1_learn_3 F h b_words b_endings ga0 gn0 hg0  x2 x3 x4 b_wordKinds g0 FU (x2, b_counts, b_stepPrices, b_pairsOf, b_stepCosts) _ hu_3 (fun z_3 H locs ls hP hD hS hl => ?_) _ _ _ hP hD hS (lv_sub hl [1, 2, 3, 4, 5, 0] rfl)
  have hP : va_P gw.1 vwCl [(zOX1 h b_words b_endings), (zA gw (h 207) 60 b_wordKinds), (zA gw (h 209) 60 b_counts_3), (zA gw (h 216) 81 b_stepPrices_3), (zA gw (h 217) 81 b_pairsOf_3), (zA gw (h 218) 81 b_stepCosts_3), (zA gw ga0 gn0 g0)] H := hP
  have hD : va_D A [(zOX1 h b_words b_endings), (zA gw (h 207) 60 b_wordKinds), (zA gw (h 209) 60 b_counts_3), (zA gw (h 216) 81 b_stepPrices_3), (zA gw (h 217) 81 b_pairsOf_3), (zA gw (h 218) 81 b_stepCosts_3), (zA gw ga0 gn0 g0)] := hD
  have hl : lv_has ls 8 [] := hl
  cases hm
  exact z_vret hx hb hr hlk hP hD hS dX1_learn_99
theorem c_X1_learn (l : Launch) (gw : zG) (h : Nat → Nat) (b_words : Int) (b_endings : Int) (ga0 : Nat) (gn0 : Nat) (hg0 : gn0 < 2147483648) (x2 : Int) (x3 : Int) (x4 : Int) (b_wordKinds : Nat → Int) (b_counts : Nat → Int) (b_stepPrices : Nat → Int) (b_pairsOf : Nat → Int) (b_stepCosts : Nat → Int) (g0 : Nat → Int) (u : (Nat → Int) × (Nat → Int) × (Nat → Int) × (Nat → Int)) (hm : m_X1_learn x2 x3 x4 b_wordKinds b_counts b_stepPrices b_pairsOf b_stepCosts g0 gn0 = some u) (sz : Nat) : Met l yX1_learn wsX1_learn rmX1_learn (va_Pc [.ref (h 1), .ref ga0, .int (zi x2), .int (zi x3), .int (zi x4)] (zPre gw [(zOX1 h b_words b_endings), (zA gw (h 207) 60 b_wordKinds), (zA gw (h 209) 60 b_counts), (zA gw (h 216) 81 b_stepPrices), (zA gw (h 217) 81 b_pairsOf), (zA gw (h 218) 81 b_stepCosts), (zA gw ga0 gn0 g0)] sz)) (zQ gw none [(zOX1 h b_words b_endings), (zA gw (h 207) 60 b_wordKinds), (zA gw (h 209) 60 (u.1)), (zA gw (h 216) 81 (u.2.1)), (zA gw (h 217) 81 (u.2.2.1)), (zA gw (h 218) 81 (u.2.2.2)), (zA gw ga0 gn0 g0)] (va_A [(zOX1 h b_words b_endings), (zA gw (h 207) 60 b_wordKinds), (zA gw (h 209) 60 b_counts), (zA gw (h 216) 81 b_stepPrices), (zA gw (h 217) 81 b_pairsOf), (zA gw (h 218) 81 b_stepCosts), (zA gw ga0 gn0 g0)] sz)) 0 0 (va_A [(zOX1 h b_words b_endings), (zA gw (h 207) 60 b_wordKinds), (zA gw (h 209) 60 b_counts), (zA gw (h 216) 81 b_stepPrices), (zA gw (h 217) 81 b_pairsOf), (zA gw (h 218) 81 b_stepCosts), (zA gw ga0 gn0 g0)] sz) :=
  z_met (by decide) rfl (Nat.le_of_ble_eq_true rfl) rfl (fun p e s m args below meth c A F hsz ls hl hP hD => w_X1_learn F h b_words b_endings ga0 gn0 hg0 x2 x3 x4 b_wordKinds b_counts b_stepPrices b_pairsOf b_stepCosts g0 u hm s.heap [] ls hP hD va_S.rf hl)
abbrev rmX1_wordCost : Room := { frames := 1, cells := 0, slots := 0, locals := 21 }
theorem iX1_wordCost_X1 : ∀ w ∈ wsX10, w ∈ wsX1_wordCost := by decide +kernel
def m_X1_wordCost (x1 : Int) (b_counts : Nat → Int) (b_prices : Nat → Int) : Option (Int) :=
  gd (0 ≤ x1 ∧ x1 < 60) <|
  (m_X8_digits (b_counts (Int.toNat x1))).bind fun r_14 =>
  some ((b_prices (Int.toNat 2)) - (8 * r_14))
set_option maxHeartbeats 4000000 in
set_option maxRecDepth 100000 in
theorem w_X1_wordCost (F : zF p s m args meth c A gw cX1_wordCost 2 (some .int) wsX1_wordCost yX1_wordCost) (h : Nat → Nat) (b_words : Int) (b_endings : Int) (x1 : Int) (b_counts : Nat → Int) (b_prices : Nat → Int) (u : Int) (hm : m_X1_wordCost x1 b_counts b_prices = some u) (H : Heap) (locs : List Loc) (ls : Array Slot) (hP : va_P gw.1 vwCl [(zOX1 h b_words b_endings), (zA gw (h 209) 60 b_counts), (zA gw (h 215) 3 b_prices)] H) (hD : va_D A [(zOX1 h b_words b_endings), (zA gw (h 209) 60 b_counts), (zA gw (h 215) 3 b_prices)]) (hS : va_S A s.heap H locs) (hl : lv_has ls 2 [(0, .ref (h 1)), (1, .int (zi x1))]) : W p l e rmX1_wordCost s m args below meth c H locs 0 0 (MQ below (zQ gw (some (.int (zi u))) [(zOX1 h b_words b_endings), (zA gw (h 209) 60 b_counts), (zA gw (h 215) 3 b_prices)] A) args s 0 0 A) (F0 m 0 ls []) := by
  obtain ⟨hx, hb, hml, hr, hown, hts, hlk, hK, hA, hnm⟩ := id F
  have hown : s.vm.findClass RX1 = some m.cls := hown
  unfold m_X1_wordCost at hm
  refine lv_aload_n hx hb dX1_wordCost_0 rfl (lv_at hl 0 rfl) ?_
  refine va_get (D := gw.1) (ci := 1) (v := .ref (h 215)) (C := RX1) (T := TX1) (N := 19) hx hb hts iX1_wordCost_X1 hown hK.1 hP 0 rfl rfl 15 (by decide) (hts (.fieldLink RX1 52 "SoundLine$Book" "prices" "[I") (by decide +kernel)) (fun _ h9 => h9) rfl dX1_wordCost_1 ?_
  refine lv_iconst (v := zi 2) hx hb dX1_wordCost_4 rfl ?_
  refine z_iald hx hb hK hP 2 rfl (by decide) (by decide) dX1_wordCost_5 ?_
  refine lv_bipush (v := zi 8) hx hb dX1_wordCost_6 (by decide) ?_
  refine lv_aload_n hx hb dX1_wordCost_8 rfl (lv_at hl 0 rfl) ?_
  refine va_get (D := gw.1) (ci := 1) (v := .ref (h 209)) (C := RX1) (T := TX1) (N := 19) hx hb hts iX1_wordCost_X1 hown hK.1 hP 0 rfl rfl 9 (by decide) (hts (.fieldLink RX1 37 "SoundLine$Book" "counts" "[I") (by decide +kernel)) (fun _ h9 => h9) rfl dX1_wordCost_9 ?_
  refine lv_iload_n hx hb dX1_wordCost_12 rfl (lv_at hl 1 rfl) ?_
  obtain ⟨g_13, hm⟩ := gd_e hm
  refine z_iald hx hb hK hP 1 rfl g_13 (by decide) dX1_wordCost_13 ?_
  obtain ⟨r_14, hr_14, hm⟩ := bd_e hm
  refine z_callSN (As := [.int (zi (b_counts (Int.toNat x1)))]) (rest := [.int (zi 8), .int (zi (b_prices (Int.toNat 2)))]) (wr := [(zOX1 h b_words b_endings), (zA gw (h 209) 60 b_counts), (zA gw (h 215) 3 b_prices)]) (ws' := [(zOX1 h b_words b_endings), (zA gw (h 209) 60 b_counts), (zA gw (h 215) 3 b_prices)]) ⟨hx, hb, hml, hown, hts⟩ (c_X8_digits l gw h (b_counts (Int.toNat x1)) r_14 hr_14 H.size) ⟨va_cnB 1 hts gX1_wordCost_X8_digits_n71 rfl rfl rfl (hK.2.2 (RX1, 71, yX8_digits, RX8) (List.mem_of_getElem? (i := 33) rfl)) (hts (.initialized RX8) (by decide +kernel)) (by decide +kernel) ⟨Nat.le_of_ble_eq_true rfl, Nat.le_of_ble_eq_true rfl⟩, (hts (.static yX8_digits) (by decide +kernel)), trivial⟩ hK hP hD hS hA [] [0, 1, 2] [0, 1, 2] (by decide) rfl rfl (by decide) (by decide) rfl (by decide) rfl hl.1 (Nat.le_of_ble_eq_true rfl) dX1_wordCost_14 ⟨Nat.zero_le _, Nat.zero_le _⟩ rfl (fun H locs hP hD hS => ?_)
  have hP : va_P gw.1 vwCl [(zOX1 h b_words b_endings), (zA gw (h 209) 60 b_counts), (zA gw (h 215) 3 b_prices)] H := hP
  have hD : va_D A [(zOX1 h b_words b_endings), (zA gw (h 209) 60 b_counts), (zA gw (h 215) 3 b_prices)] := hD
  refine W.eq (g2 := F0 m 17 ls [.int (zi r_14), .int (zi 8), .int (zi (b_prices (Int.toNat 2)))]) rfl ?_
  refine z_imul hx hb dX1_wordCost_17 ?_
  refine z_isub hx hb dX1_wordCost_18 ?_
  cases hm
  exact z_iret hx hb hr hlk hP hD hS dX1_wordCost_19
theorem c_X1_wordCost (l : Launch) (gw : zG) (h : Nat → Nat) (b_words : Int) (b_endings : Int) (x1 : Int) (b_counts : Nat → Int) (b_prices : Nat → Int) (u : Int) (hm : m_X1_wordCost x1 b_counts b_prices = some u) (sz : Nat) : Met l yX1_wordCost wsX1_wordCost rmX1_wordCost (va_Pc [.ref (h 1), .int (zi x1)] (zPre gw [(zOX1 h b_words b_endings), (zA gw (h 209) 60 b_counts), (zA gw (h 215) 3 b_prices)] sz)) (zQ gw (some (.int (zi u))) [(zOX1 h b_words b_endings), (zA gw (h 209) 60 b_counts), (zA gw (h 215) 3 b_prices)] (va_A [(zOX1 h b_words b_endings), (zA gw (h 209) 60 b_counts), (zA gw (h 215) 3 b_prices)] sz)) 0 0 (va_A [(zOX1 h b_words b_endings), (zA gw (h 209) 60 b_counts), (zA gw (h 215) 3 b_prices)] sz) :=
  z_met (by decide) rfl (Nat.le_of_ble_eq_true rfl) rfl (fun p e s m args below meth c A F hsz ls hl hP hD => w_X1_wordCost F h b_words b_endings x1 b_counts b_prices u hm s.heap [] ls hP hD va_S.rf hl)
abbrev rmX1_goesTogether : Room := { frames := 0, cells := 0, slots := 0, locals := 0 }
theorem iX1_goesTogether_X1 : ∀ w ∈ wsX10, w ∈ wsX1_goesTogether := by decide +kernel
def m_X1_goesTogether (x1 : Int) (x2 : Int) (b_wordClasses : Nat → Int) (b_endings : Int) (b_endingClasses : Nat → Int) : Option (Int) :=
  gd (inI x2) <|
  if x2 = (-1) then
    some 1
  else
    gd (inI b_endings) <|
    if b_endings ≤ x2 then
      some 0
    else
      gd (0 ≤ x2 ∧ x2 < 8) <|
      gd (0 ≤ x1 ∧ x1 < 60) <|
      gd (inI (b_endingClasses (Int.toNat x2))) <|
      gd (inI (b_wordClasses (Int.toNat x1))) <|
      if (b_endingClasses (Int.toNat x2)) = (b_wordClasses (Int.toNat x1)) then
        some 1
      else
        some 0
set_option maxHeartbeats 4000000 in
set_option maxRecDepth 100000 in
theorem w_X1_goesTogether (F : zF p s m args meth c A gw cX1_goesTogether 3 (some .boolean) wsX1_goesTogether yX1_goesTogether) (h : Nat → Nat) (b_words : Int) (x1 : Int) (x2 : Int) (b_wordClasses : Nat → Int) (b_endings : Int) (b_endingClasses : Nat → Int) (u : Int) (hm : m_X1_goesTogether x1 x2 b_wordClasses b_endings b_endingClasses = some u) (H : Heap) (locs : List Loc) (ls : Array Slot) (hP : va_P gw.1 vwCl [(zOX1 h b_words b_endings), (zA gw (h 208) 60 b_wordClasses), (zA gw (h 213) 8 b_endingClasses)] H) (hD : va_D A [(zOX1 h b_words b_endings), (zA gw (h 208) 60 b_wordClasses), (zA gw (h 213) 8 b_endingClasses)]) (hS : va_S A s.heap H locs) (hl : lv_has ls 3 [(0, .ref (h 1)), (1, .int (zi x1)), (2, .int (zi x2))]) : W p l e rmX1_goesTogether s m args below meth c H locs 0 0 (MQ below (zQ gw (some (.int (zi u))) [(zOX1 h b_words b_endings), (zA gw (h 208) 60 b_wordClasses), (zA gw (h 213) 8 b_endingClasses)] A) args s 0 0 A) (F0 m 0 ls []) := by
  obtain ⟨hx, hb, hml, hr, hown, hts, hlk, hK, hA, hnm⟩ := id F
  have hown : s.vm.findClass RX1 = some m.cls := hown
  unfold m_X1_goesTogether at hm
  refine lv_iload_n hx hb dX1_goesTogether_0 rfl (lv_at hl 2 rfl) ?_
  refine lv_iconst (v := zi (-1)) hx hb dX1_goesTogether_1 rfl ?_
  obtain ⟨g_2, hm⟩ := gd_e hm
  refine z_icmp_eq (tgt := 28) hx hb g_2 (by decide) dX1_goesTogether_2 (by decide) (fun c_2 => ?_) (fun c_2 => ?_)
  · have hm := if_p hm c_2
    refine lv_iconst (v := zi 1) hx hb dX1_goesTogether_28 rfl ?_
    refine lv_goto (tgt := 33) hx hb dX1_goesTogether_29 (by decide) ?_
    cases hm
    exact z_zret hx hb hr hlk hP hD hS (Or.inr rfl) dX1_goesTogether_33
  · have hm := if_n hm c_2
    refine lv_iload_n hx hb dX1_goesTogether_5 rfl (lv_at hl 2 rfl) ?_
    refine lv_aload_n hx hb dX1_goesTogether_6 rfl (lv_at hl 0 rfl) ?_
    refine va_get (D := gw.1) (ci := 1) (v := .int (zi b_endings)) (C := RX1) (T := TX1) (N := 19) hx hb hts iX1_goesTogether_X1 hown hK.1 hP 0 rfl rfl 10 (by decide) (hts (.fieldLink RX1 68 "SoundLine$Book" "endings" "I") (by decide +kernel)) (fun _ h9 => h9) rfl dX1_goesTogether_7 ?_
    obtain ⟨g_10, hm⟩ := gd_e hm
    refine z_icmp_ge (tgt := 32) hx hb g_2 g_10 dX1_goesTogether_10 (by decide) (fun c_10 => ?_) (fun c_10 => ?_)
    · have hm := if_p hm c_10
      refine lv_iconst (v := zi 0) hx hb dX1_goesTogether_32 rfl ?_
      cases hm
      exact z_zret hx hb hr hlk hP hD hS (Or.inl rfl) dX1_goesTogether_33
    · have hm := if_n hm c_10
      refine lv_aload_n hx hb dX1_goesTogether_13 rfl (lv_at hl 0 rfl) ?_
      refine va_get (D := gw.1) (ci := 1) (v := .ref (h 213)) (C := RX1) (T := TX1) (N := 19) hx hb hts iX1_goesTogether_X1 hown hK.1 hP 0 rfl rfl 13 (by decide) (hts (.fieldLink RX1 46 "SoundLine$Book" "endingClasses" "[I") (by decide +kernel)) (fun _ h9 => h9) rfl dX1_goesTogether_14 ?_
      refine lv_iload_n hx hb dX1_goesTogether_17 rfl (lv_at hl 2 rfl) ?_
      obtain ⟨g_18, hm⟩ := gd_e hm
      refine z_iald hx hb hK hP 2 rfl g_18 (by decide) dX1_goesTogether_18 ?_
      refine lv_aload_n hx hb dX1_goesTogether_19 rfl (lv_at hl 0 rfl) ?_
      refine va_get (D := gw.1) (ci := 1) (v := .ref (h 208)) (C := RX1) (T := TX1) (N := 19) hx hb hts iX1_goesTogether_X1 hown hK.1 hP 0 rfl rfl 8 (by decide) (hts (.fieldLink RX1 34 "SoundLine$Book" "wordClasses" "[I") (by decide +kernel)) (fun _ h9 => h9) rfl dX1_goesTogether_20 ?_
      refine lv_iload_n hx hb dX1_goesTogether_23 rfl (lv_at hl 1 rfl) ?_
      obtain ⟨g_24, hm⟩ := gd_e hm
      refine z_iald hx hb hK hP 1 rfl g_24 (by decide) dX1_goesTogether_24 ?_
      obtain ⟨g_25, hm⟩ := gd_e hm
      obtain ⟨g_25_v2, hm⟩ := gd_e hm
      refine z_icmp_ne (tgt := 32) hx hb g_25 g_25_v2 dX1_goesTogether_25 (by decide) (fun c_25 => ?_) (fun c_25 => ?_)
      · have hm := if_n hm c_25
        refine lv_iconst (v := zi 0) hx hb dX1_goesTogether_32 rfl ?_
        cases hm
        exact z_zret hx hb hr hlk hP hD hS (Or.inl rfl) dX1_goesTogether_33
      · have hm := if_p hm c_25
        refine lv_iconst (v := zi 1) hx hb dX1_goesTogether_28 rfl ?_
        refine lv_goto (tgt := 33) hx hb dX1_goesTogether_29 (by decide) ?_
        cases hm
        exact z_zret hx hb hr hlk hP hD hS (Or.inr rfl) dX1_goesTogether_33
theorem c_X1_goesTogether (l : Launch) (gw : zG) (h : Nat → Nat) (b_words : Int) (x1 : Int) (x2 : Int) (b_wordClasses : Nat → Int) (b_endings : Int) (b_endingClasses : Nat → Int) (u : Int) (hm : m_X1_goesTogether x1 x2 b_wordClasses b_endings b_endingClasses = some u) (sz : Nat) : Met l yX1_goesTogether wsX1_goesTogether rmX1_goesTogether (va_Pc [.ref (h 1), .int (zi x1), .int (zi x2)] (zPre gw [(zOX1 h b_words b_endings), (zA gw (h 208) 60 b_wordClasses), (zA gw (h 213) 8 b_endingClasses)] sz)) (zQ gw (some (.int (zi u))) [(zOX1 h b_words b_endings), (zA gw (h 208) 60 b_wordClasses), (zA gw (h 213) 8 b_endingClasses)] (va_A [(zOX1 h b_words b_endings), (zA gw (h 208) 60 b_wordClasses), (zA gw (h 213) 8 b_endingClasses)] sz)) 0 0 (va_A [(zOX1 h b_words b_endings), (zA gw (h 208) 60 b_wordClasses), (zA gw (h 213) 8 b_endingClasses)] sz) :=
  z_met (by decide) rfl (Nat.le_of_ble_eq_true rfl) rfl (fun p e s m args below meth c A F hsz ls hl hP hD => w_X1_goesTogether F h b_words x1 x2 b_wordClasses b_endings b_endingClasses u hm s.heap [] ls hP hD va_S.rf hl)
abbrev rmX8_rowLength : Room := { frames := 0, cells := 0, slots := 0, locals := 0 }
def m_X8_rowLength_13 (x2 : Int) (x3 : Int) (x4 : Int) (x5 : Int) (x7 : Int) (x9 : Int) : Option (Nat × (Int × Int)) :=
  gd (inI x9) <|
  gd (inI x4) <|
  if x4 ≤ x9 then
    some (1, (x7, x9))
  else
    gd (inL (zland x7 x5)) <|
    if (zland x7 x5) = 0 then
      some (1, (x7, x9))
    else
      gd (inI x3) <|
      gd (inL x3) <|
      if (zland x7 x5) ≤ x3 then
        gd (inL x7) <|
        gd (0 ≤ x2 ∧ x2 < 64) <|
        vl (zushr x7 x2) fun x7_47 =>
        vl (x9 + 1) fun x9_49 =>
        some (0, (x7_47, x9_49))
      else
        some (2, (x7, x9))
set_option maxHeartbeats 4000000 in
set_option maxRecDepth 100000 in
theorem w_X8_rowLength_13 (F : zF p s m args meth c A gw cX8_rowLength 10 (some .int) wsX8_rowLength yX8_rowLength) (h : Nat → Nat)  (x2 : Int) (x3 : Int) (x4 : Int) (x5 : Int) (x7 : Int) (x9 : Int) (u : Nat × (Int × Int)) (hm : m_X8_rowLength_13 x2 x3 x4 x5 x7 x9 = some u) (H : Heap) (locs : List Loc) (ls : Array Slot) (hP : va_P gw.1 vwCl [] H) (hD : va_D A []) (hS : va_S A s.heap H locs) (hl : lv_has ls 10 [(2, .int (zi x2)), (3, .int (zi x3)), (4, .int (zi x4)), (5, .long (zl x5)), (7, .long (zl x7)), (9, .int (zi x9))]) (k0 : u.1 = 0 → ∀ (H : Heap) (locs : List Loc) (ls : Array Slot), va_P gw.1 vwCl [] H → va_D A [] → va_S A s.heap H locs → lv_has ls 10 [(2, .int (zi x2)), (3, .int (zi x3)), (4, .int (zi x4)), (5, .long (zl x5)), (7, .long (zl (u.2.1))), (9, .int (zi (u.2.2)))] → W p l e rmX8_rowLength s m args below meth c H locs 0 0 Q (F0 m 13 ls [])) (k1 : u.1 = 1 → ∀ (H : Heap) (locs : List Loc) (ls : Array Slot), va_P gw.1 vwCl [] H → va_D A [] → va_S A s.heap H locs → lv_has ls 10 [(7, .long (zl (u.2.1))), (9, .int (zi (u.2.2)))] → W p l e rmX8_rowLength s m args below meth c H locs 0 0 Q (F0 m 55 ls [])) (k2 : u.1 = 2 → ∀ (H : Heap) (locs : List Loc) (ls : Array Slot), va_P gw.1 vwCl [] H → va_D A [] → va_S A s.heap H locs → lv_has ls 10 [] → W p l e rmX8_rowLength s m args below meth c H locs 0 0 Q (F0 m 41 ls [])) : W p l e rmX8_rowLength s m args below meth c H locs 0 0 Q (F0 m 13 ls []) := by
  obtain ⟨hx, hb, hml, hr, hown, hts, hlk, hK, hA, hnm⟩ := id F
  have hown : s.vm.findClass RX8 = some m.cls := hown
  unfold m_X8_rowLength_13 at hm
  refine lv_iload hx hb dX8_rowLength_13 (lv_at hl 5 rfl) ?_
  refine lv_iload hx hb dX8_rowLength_15 (lv_at hl 2 rfl) ?_
  obtain ⟨g_17, hm⟩ := gd_e hm
  obtain ⟨g_17_v2, hm⟩ := gd_e hm
  refine z_icmp_ge (tgt := 55) hx hb g_17 g_17_v2 dX8_rowLength_17 (by decide) (fun c_17 => ?_) (fun c_17 => ?_)
  · have hm := if_p hm c_17
    cases hm
    exact k1 rfl _ _ _ hP hD hS (lv_sub hl [4, 5] rfl)
  · have hm := if_n hm c_17
    refine lv_lload hx hb dX8_rowLength_20 (lv_at hl 4 rfl) ?_
    refine lv_lload hx hb dX8_rowLength_22 (lv_at hl 3 rfl) ?_
    refine z_land hx hb dX8_rowLength_24 ?_
    refine lv_lconst (v := zl 0) hx hb dX8_rowLength_25 (by decide) ?_
    obtain ⟨g_26, hm⟩ := gd_e hm
    refine z_lcmp_eq (tgt := 55) hx hb g_26 (by decide) dX8_rowLength_26 dX8_rowLength_27 (by decide) (fun c_26 => ?_) (fun c_26 => ?_)
    · have hm := if_p hm c_26
      cases hm
      exact k1 rfl _ _ _ hP hD hS (lv_sub hl [4, 5] rfl)
    · have hm := if_n hm c_26
      refine lv_lload hx hb dX8_rowLength_30 (lv_at hl 4 rfl) ?_
      refine lv_lload hx hb dX8_rowLength_32 (lv_at hl 3 rfl) ?_
      refine z_land hx hb dX8_rowLength_34 ?_
      refine lv_iload_n hx hb dX8_rowLength_35 rfl (lv_at hl 1 rfl) ?_
      obtain ⟨g_36, hm⟩ := gd_e hm
      refine z_i2l hx hb g_36 dX8_rowLength_36 ?_
      obtain ⟨g_37, hm⟩ := gd_e hm
      refine z_lcmp_le (tgt := 43) hx hb g_26 g_37 dX8_rowLength_37 dX8_rowLength_38 (by decide) (fun c_37 => ?_) (fun c_37 => ?_)
      · have hm := if_p hm c_37
        refine lv_lload hx hb dX8_rowLength_43 (lv_at hl 4 rfl) ?_
        refine lv_iload_n hx hb dX8_rowLength_45 rfl (lv_at hl 0 rfl) ?_
        obtain ⟨g_46, hm⟩ := gd_e hm
        obtain ⟨g_46_v2, hm⟩ := gd_e hm
        refine z_lushr hx hb ⟨g_46, g_46_v2⟩ dX8_rowLength_46 ?_
        obtain ⟨x7_47, e_x7_47, hm⟩ := vl_e hm
        refine z_topl e_x7_47 ?_
        refine lv_lstore (lv' := [(7, .long (zl x7_47)), (2, .int (zi x2)), (3, .int (zi x3)), (4, .int (zi x4)), (5, .long (zl x5)), (9, .int (zi x9))]) hx hb dX8_rowLength_47 hl (by decide) rfl (fun ls hl => ?_)
        obtain ⟨x9_49, e_x9_49, hm⟩ := vl_e hm
        refine lv_iinc (v := zi x9_49) (lv' := [(9, .int (zi x9_49)), (7, .long (zl x7_47)), (2, .int (zi x2)), (3, .int (zi x3)), (4, .int (zi x4)), (5, .long (zl x5))]) hx hb dX8_rowLength_49 hl (k := 5) rfl (by rw [e_x9_49]; exact zi_add _ _) (by decide) rfl (fun ls hl => ?_)
        refine lv_goto (tgt := 13) hx hb dX8_rowLength_52 (by decide) ?_
        cases hm
        exact k0 rfl _ _ _ hP hD hS (lv_sub hl [2, 3, 4, 5, 1, 0] rfl)
      · have hm := if_n hm c_37
        cases hm
        exact k2 rfl _ _ _ hP hD hS (lv_sub hl [] rfl)
set_option maxHeartbeats 4000000 in
theorem l_X8_rowLength_13 (F : zF p s m args meth c A gw cX8_rowLength 10 (some .int) wsX8_rowLength yX8_rowLength) (h : Nat → Nat)  (x2 : Int) (x3 : Int) (x4 : Int) (x5 : Int) (n : Nat) (a : Int × Int) (u : Nat × (Int × Int)) (hm : zloop (fun a => m_X8_rowLength_13 x2 x3 x4 x5 a.1 a.2) n a = some u) (k1 : u.1 = 1 → ∀ (H : Heap) (locs : List Loc) (ls : Array Slot), va_P gw.1 vwCl [] H → va_D A [] → va_S A s.heap H locs → lv_has ls 10 [(7, .long (zl (u.2.1))), (9, .int (zi (u.2.2)))] → W p l e rmX8_rowLength s m args below meth c H locs 0 0 Q (F0 m 55 ls [])) (k2 : u.1 = 2 → ∀ (H : Heap) (locs : List Loc) (ls : Array Slot), va_P gw.1 vwCl [] H → va_D A [] → va_S A s.heap H locs → lv_has ls 10 [] → W p l e rmX8_rowLength s m args below meth c H locs 0 0 Q (F0 m 41 ls [])) (H : Heap) (locs : List Loc) (ls : Array Slot) (hP : va_P gw.1 vwCl [] H) (hD : va_D A []) (hS : va_S A s.heap H locs) (hl : lv_has ls 10 [(2, .int (zi x2)), (3, .int (zi x3)), (4, .int (zi x4)), (5, .long (zl x5)), (7, .long (zl (a.1))), (9, .int (zi (a.2)))]) : W p l e rmX8_rowLength s m args below meth c H locs 0 0 Q (F0 m 13 ls []) := by
  refine zloop_ind (P := fun a => ∀ (H : Heap) (locs : List Loc) (ls : Array Slot), va_P gw.1 vwCl [] H → va_D A [] → va_S A s.heap H locs → lv_has ls 10 [(2, .int (zi x2)), (3, .int (zi x3)), (4, .int (zi x4)), (5, .long (zl x5)), (7, .long (zl (a.1))), (9, .int (zi (a.2)))] → W p l e rmX8_rowLength s m args below meth c H locs 0 0 Q (F0 m 13 ls [])) (K := fun w => (w.1 = 1 → ∀ (H : Heap) (locs : List Loc) (ls : Array Slot), va_P gw.1 vwCl [] H → va_D A [] → va_S A s.heap H locs → lv_has ls 10 [(7, .long (zl (w.2.1))), (9, .int (zi (w.2.2)))] → W p l e rmX8_rowLength s m args below meth c H locs 0 0 Q (F0 m 55 ls [])) ∧ (w.1 = 2 → ∀ (H : Heap) (locs : List Loc) (ls : Array Slot), va_P gw.1 vwCl [] H → va_D A [] → va_S A s.heap H locs → lv_has ls 10 [] → W p l e rmX8_rowLength s m args below meth c H locs 0 0 Q (F0 m 41 ls []))) (fun a w hb h0 hk H locs ls hP hD hS hl => ?_) n a u hm (fun _ => ⟨k1, k2⟩) H locs ls hP hD hS hl
  exact w_X8_rowLength_13 F h  x2 x3 x4 x5 a.1 a.2 w hb H locs ls hP hD hS hl (fun z H locs ls hP hD hS hl => h0 z H locs ls hP hD hS hl) (fun z => (hk (by rw [z]; decide)).1 z) (fun z => (hk (by rw [z]; decide)).2 z)
def m_X8_rowLength_55 (x7 : Int) (x9 : Int) : Option (Int) :=
  gd (inL x7) <|
  if x7 = 0 then
    some x9
  else
    some 0
set_option maxHeartbeats 4000000 in
set_option maxRecDepth 100000 in
theorem w_X8_rowLength_55 (F : zF p s m args meth c A gw cX8_rowLength 10 (some .int) wsX8_rowLength yX8_rowLength) (h : Nat → Nat) (x7 : Int) (x9 : Int) (u : Int) (hm : m_X8_rowLength_55 x7 x9 = some u) (H : Heap) (locs : List Loc) (ls : Array Slot) (hP : va_P gw.1 vwCl [] H) (hD : va_D A []) (hS : va_S A s.heap H locs) (hl : lv_has ls 10 [(7, .long (zl x7)), (9, .int (zi x9))]) : W p l e rmX8_rowLength s m args below meth c H locs 0 0 (MQ below (zQ gw (some (.int (zi u))) [] A) args s 0 0 A) (F0 m 55 ls []) := by
  obtain ⟨hx, hb, hml, hr, hown, hts, hlk, hK, hA, hnm⟩ := id F
  have hown : s.vm.findClass RX8 = some m.cls := hown
  unfold m_X8_rowLength_55 at hm
  refine lv_lload hx hb dX8_rowLength_55 (lv_at hl 0 rfl) ?_
  refine lv_lconst (v := zl 0) hx hb dX8_rowLength_57 (by decide) ?_
  obtain ⟨g_58, hm⟩ := gd_e hm
  refine z_lcmp_ne (tgt := 67) hx hb g_58 (by decide) dX8_rowLength_58 dX8_rowLength_59 (by decide) (fun c_58 => ?_) (fun c_58 => ?_)
  · have hm := if_n hm c_58
    refine lv_iconst (v := zi 0) hx hb dX8_rowLength_67 rfl ?_
    cases hm
    exact z_iret hx hb hr hlk hP hD hS dX8_rowLength_68
  · have hm := if_p hm c_58
    refine lv_iload hx hb dX8_rowLength_62 (lv_at hl 1 rfl) ?_
    refine lv_goto (tgt := 68) hx hb dX8_rowLength_64 (by decide) ?_
    cases hm
    exact z_iret hx hb hr hlk hP hD hS dX8_rowLength_68
def m_X8_rowLength (x0 : Int) (x2 : Int) (x3 : Int) (x4 : Int) : Option (Int) :=
  gd (0 ≤ x2 ∧ x2 < 64) <|
  vl ((1 * 2 ^ Int.toNat x2) - 1) fun x5_5 =>
  (zloop (fun a => m_X8_rowLength_13 x2 x3 x4 x5_5 a.1 a.2) FU (x0, 0)).bind fun (t_13, x7_13, x9_13) =>
  if t_13 = 1 then
    m_X8_rowLength_55 x7_13 x9_13
  else
    some 0
set_option maxHeartbeats 4000000 in
set_option maxRecDepth 100000 in
theorem w_X8_rowLength (F : zF p s m args meth c A gw cX8_rowLength 10 (some .int) wsX8_rowLength yX8_rowLength) (h : Nat → Nat) (x0 : Int) (x2 : Int) (x3 : Int) (x4 : Int) (u : Int) (hm : m_X8_rowLength x0 x2 x3 x4 = some u) (H : Heap) (locs : List Loc) (ls : Array Slot) (hP : va_P gw.1 vwCl [] H) (hD : va_D A []) (hS : va_S A s.heap H locs) (hl : lv_has ls 10 [(0, .long (zl x0)), (2, .int (zi x2)), (3, .int (zi x3)), (4, .int (zi x4))]) : W p l e rmX8_rowLength s m args below meth c H locs 0 0 (MQ below (zQ gw (some (.int (zi u))) [] A) args s 0 0 A) (F0 m 0 ls []) := by
  obtain ⟨hx, hb, hml, hr, hown, hts, hlk, hK, hA, hnm⟩ := id F
  have hown : s.vm.findClass RX8 = some m.cls := hown
  unfold m_X8_rowLength at hm
  refine lv_lconst (v := zl 1) hx hb dX8_rowLength_0 (by decide) ?_
  refine lv_iload_n hx hb dX8_rowLength_1 rfl (lv_at hl 1 rfl) ?_
  obtain ⟨g_2, hm⟩ := gd_e hm
  refine z_lshl hx hb g_2 dX8_rowLength_2 ?_
  refine lv_lconst (v := zl 1) hx hb dX8_rowLength_3 (by decide) ?_
  refine z_lsub hx hb dX8_rowLength_4 ?_
  obtain ⟨x5_5, e_x5_5, hm⟩ := vl_e hm
  refine z_topl e_x5_5 ?_
  refine lv_lstore (lv' := [(5, .long (zl x5_5)), (0, .long (zl x0)), (2, .int (zi x2)), (3, .int (zi x3)), (4, .int (zi x4))]) hx hb dX8_rowLength_5 hl (by decide) rfl (fun ls hl => ?_)
  refine lv_lload_n hx hb dX8_rowLength_7 rfl (lv_at hl 1 rfl) ?_
  refine lv_lstore (lv' := [(7, .long (zl x0)), (5, .long (zl x5_5)), (0, .long (zl x0)), (2, .int (zi x2)), (3, .int (zi x3)), (4, .int (zi x4))]) hx hb dX8_rowLength_8 hl (by decide) rfl (fun ls hl => ?_)
  refine lv_iconst (v := zi 0) hx hb dX8_rowLength_10 rfl ?_
  refine lv_istore (lv' := [(9, .int (zi 0)), (7, .long (zl x0)), (5, .long (zl x5_5)), (0, .long (zl x0)), (2, .int (zi x2)), (3, .int (zi x3)), (4, .int (zi x4))]) hx hb dX8_rowLength_11 hl (by decide) rfl (fun ls hl => ?_)
  obtain ⟨u_13, hu_13, hm⟩ := bd_e hm
  obtain ⟨t_13, x7_13, x9_13⟩ := u_13
  refine l_X8_rowLength_13 F h  x2 x3 x4 x5_5 FU (x0, 0) _ hu_13 (fun z_13 H locs ls hP hD hS hl => ?_) (fun z_13 H locs ls hP hD hS hl => ?_) _ _ _ hP hD hS (lv_sub hl [4, 5, 6, 2, 1, 0] rfl)
  · have hP : va_P gw.1 vwCl [] H := hP
    have hD : va_D A [] := hD
    have hl : lv_has ls 10 [(7, .long (zl x7_13)), (9, .int (zi x9_13))] := hl
    have z_13 : t_13 = 1 := z_13
    have hm := if_p hm z_13
    exact w_X8_rowLength_55 F h x7_13 x9_13 _ hm _ _ _ hP hD hS hl
  · have hP : va_P gw.1 vwCl [] H := hP
    have hD : va_D A [] := hD
    have hl : lv_has ls 10 [] := hl
    have z_13 : t_13 = 2 := z_13
    have hm := if_n hm (show ¬ t_13 = 1 by omega)
    refine lv_iconst (v := zi 0) hx hb dX8_rowLength_41 rfl ?_
    cases hm
    exact z_iret hx hb hr hlk hP hD hS dX8_rowLength_42
theorem c_X8_rowLength (l : Launch) (gw : zG) (h : Nat → Nat) (x0 : Int) (x2 : Int) (x3 : Int) (x4 : Int) (u : Int) (hm : m_X8_rowLength x0 x2 x3 x4 = some u) (sz : Nat) : Met l yX8_rowLength wsX8_rowLength rmX8_rowLength (va_Pc [.long (zl x0), .int (zi x2), .int (zi x3), .int (zi x4)] (zPre gw [] sz)) (zQ gw (some (.int (zi u))) [] (va_A [] sz)) 0 0 (va_A [] sz) :=
  z_met (by decide) rfl (Nat.le_of_ble_eq_true rfl) rfl (fun p e s m args below meth c A F hsz ls hl hP hD => w_X8_rowLength F h x0 x2 x3 x4 u hm s.heap [] ls hP hD va_S.rf hl)
abbrev rmX8_endingOf : Room := { frames := 0, cells := 0, slots := 0, locals := 0 }
def m_X8_endingOf (x0 : Int) : Option (Int) :=
  gd (inI x0) <|
  if x0 = 540 then
    some (-1)
  else
    some ((Int.tmod x0 9) - 1)
set_option maxHeartbeats 4000000 in
set_option maxRecDepth 100000 in
theorem w_X8_endingOf (F : zF p s m args meth c A gw cX8_endingOf 1 (some .int) wsX8_endingOf yX8_endingOf) (h : Nat → Nat) (x0 : Int) (u : Int) (hm : m_X8_endingOf x0 = some u) (H : Heap) (locs : List Loc) (ls : Array Slot) (hP : va_P gw.1 vwCl [] H) (hD : va_D A []) (hS : va_S A s.heap H locs) (hl : lv_has ls 1 [(0, .int (zi x0))]) : W p l e rmX8_endingOf s m args below meth c H locs 0 0 (MQ below (zQ gw (some (.int (zi u))) [] A) args s 0 0 A) (F0 m 0 ls []) := by
  obtain ⟨hx, hb, hml, hr, hown, hts, hlk, hK, hA, hnm⟩ := id F
  have hown : s.vm.findClass RX8 = some m.cls := hown
  unfold m_X8_endingOf at hm
  refine lv_iload_n hx hb dX8_endingOf_0 rfl (lv_at hl 0 rfl) ?_
  refine lv_sipush (v := zi 540) hx hb dX8_endingOf_1 (by decide) ?_
  obtain ⟨g_4, hm⟩ := gd_e hm
  refine z_icmp_ne (tgt := 11) hx hb g_4 (by decide) dX8_endingOf_4 (by decide) (fun c_4 => ?_) (fun c_4 => ?_)
  · have hm := if_n hm c_4
    refine lv_iload_n hx hb dX8_endingOf_11 rfl (lv_at hl 0 rfl) ?_
    refine lv_bipush (v := zi 9) hx hb dX8_endingOf_12 (by decide) ?_
    refine z_irem hx hb ⟨g_4, (by decide), (by decide)⟩ dX8_endingOf_14 ?_
    refine lv_iconst (v := zi 1) hx hb dX8_endingOf_15 rfl ?_
    refine z_isub hx hb dX8_endingOf_16 ?_
    cases hm
    exact z_iret hx hb hr hlk hP hD hS dX8_endingOf_17
  · have hm := if_p hm c_4
    refine lv_iconst (v := zi (-1)) hx hb dX8_endingOf_7 rfl ?_
    refine lv_goto (tgt := 17) hx hb dX8_endingOf_8 (by decide) ?_
    cases hm
    exact z_iret hx hb hr hlk hP hD hS dX8_endingOf_17
theorem c_X8_endingOf (l : Launch) (gw : zG) (h : Nat → Nat) (x0 : Int) (u : Int) (hm : m_X8_endingOf x0 = some u) (sz : Nat) : Met l yX8_endingOf wsX8_endingOf rmX8_endingOf (va_Pc [.int (zi x0)] (zPre gw [] sz)) (zQ gw (some (.int (zi u))) [] (va_A [] sz)) 0 0 (va_A [] sz) :=
  z_met (by decide) rfl (Nat.le_of_ble_eq_true rfl) rfl (fun p e s m args below meth c A F hsz ls hl hP hD => w_X8_endingOf F h x0 u hm s.heap [] ls hP hD va_S.rf hl)
abbrev rmX1_signsOf : Room := { frames := 1, cells := 0, slots := 0, locals := 29 }
theorem iX1_signsOf_X1 : ∀ w ∈ wsX10, w ∈ wsX1_signsOf := by decide +kernel
def m_X1_signsOf (x1 : Int) (b_wordSigns : Nat → Int) : Option (Int) :=
  gd (inI x1) <|
  if x1 = 540 then
    some 1
  else
    (m_X8_wordOf x1).bind fun r_14 =>
    gd (0 ≤ r_14 ∧ r_14 < 60) <|
    (m_X8_rowLength (b_wordSigns (Int.toNat r_14)) 14 16383 4).bind fun r_24 =>
    (m_X8_endingOf x1).bind fun r_28 =>
    gd (inI r_28) <|
    if r_28 = (-1) then
      some (r_24 + 0)
    else
      some (r_24 + 1)
set_option maxHeartbeats 4000000 in
set_option maxRecDepth 100000 in
theorem w_X1_signsOf (F : zF p s m args meth c A gw cX1_signsOf 2 (some .int) wsX1_signsOf yX1_signsOf) (h : Nat → Nat) (b_words : Int) (b_endings : Int) (x1 : Int) (b_wordSigns : Nat → Int) (u : Int) (hm : m_X1_signsOf x1 b_wordSigns = some u) (H : Heap) (locs : List Loc) (ls : Array Slot) (hP : va_P gw.1 vwCl [(zOX1 h b_words b_endings), (zB gw (h 206) 60 b_wordSigns)] H) (hD : va_D A [(zOX1 h b_words b_endings), (zB gw (h 206) 60 b_wordSigns)]) (hS : va_S A s.heap H locs) (hl : lv_has ls 2 [(0, .ref (h 1)), (1, .int (zi x1))]) : W p l e rmX1_signsOf s m args below meth c H locs 0 0 (MQ below (zQ gw (some (.int (zi u))) [(zOX1 h b_words b_endings), (zB gw (h 206) 60 b_wordSigns)] A) args s 0 0 A) (F0 m 0 ls []) := by
  obtain ⟨hx, hb, hml, hr, hown, hts, hlk, hK, hA, hnm⟩ := id F
  have hown : s.vm.findClass RX1 = some m.cls := hown
  unfold m_X1_signsOf at hm
  refine lv_iload_n hx hb dX1_signsOf_0 rfl (lv_at hl 1 rfl) ?_
  refine lv_sipush (v := zi 540) hx hb dX1_signsOf_1 (by decide) ?_
  obtain ⟨g_4, hm⟩ := gd_e hm
  refine z_icmp_ne (tgt := 9) hx hb g_4 (by decide) dX1_signsOf_4 (by decide) (fun c_4 => ?_) (fun c_4 => ?_)
  · have hm := if_n hm c_4
    refine lv_aload_n hx hb dX1_signsOf_9 rfl (lv_at hl 0 rfl) ?_
    refine va_get (D := gw.1) (ci := 1) (v := .ref (h 206)) (C := RX1) (T := TX1) (N := 19) hx hb hts iX1_signsOf_X1 hown hK.1 hP 0 rfl rfl 6 (by decide) (hts (.fieldLink RX1 28 "SoundLine$Book" "wordSigns" "[J") (by decide +kernel)) (fun _ h9 => h9) rfl dX1_signsOf_10 ?_
    refine lv_iload_n hx hb dX1_signsOf_13 rfl (lv_at hl 1 rfl) ?_
    obtain ⟨r_14, hr_14, hm⟩ := bd_e hm
    refine z_callSN (As := [.int (zi x1)]) (rest := [.ref (h 206)]) (wr := [(zOX1 h b_words b_endings), (zB gw (h 206) 60 b_wordSigns)]) (ws' := [(zOX1 h b_words b_endings), (zB gw (h 206) 60 b_wordSigns)]) ⟨hx, hb, hml, hown, hts⟩ (c_X8_wordOf l gw h x1 r_14 hr_14 H.size) ⟨va_cnB 1 hts gX1_signsOf_X8_wordOf_n75 rfl rfl rfl (hK.2.2 (RX1, 75, yX8_wordOf, RX8) (List.mem_of_getElem? (i := 34) rfl)) (hts (.initialized RX8) (by decide +kernel)) (by decide +kernel) ⟨Nat.le_of_ble_eq_true rfl, Nat.le_of_ble_eq_true rfl⟩, (hts (.static yX8_wordOf) (by decide +kernel)), trivial⟩ hK hP hD hS hA [] [0, 1] [0, 1] (by decide) rfl rfl (by decide) (by decide) rfl (by decide) rfl hl.1 (Nat.le_of_ble_eq_true rfl) dX1_signsOf_14 ⟨Nat.zero_le _, Nat.zero_le _⟩ rfl (fun H locs hP hD hS => ?_)
    have hP : va_P gw.1 vwCl [(zOX1 h b_words b_endings), (zB gw (h 206) 60 b_wordSigns)] H := hP
    have hD : va_D A [(zOX1 h b_words b_endings), (zB gw (h 206) 60 b_wordSigns)] := hD
    refine W.eq (g2 := F0 m 17 ls [.int (zi r_14), .ref (h 206)]) rfl ?_
    obtain ⟨g_17, hm⟩ := gd_e hm
    refine z_lald hx hb hK hP 1 rfl g_17 (by decide) dX1_signsOf_17 ?_
    refine lv_bipush (v := zi 14) hx hb dX1_signsOf_18 (by decide) ?_
    refine lv_sipush (v := zi 16383) hx hb dX1_signsOf_20 (by decide) ?_
    refine lv_iconst (v := zi 4) hx hb dX1_signsOf_23 rfl ?_
    obtain ⟨r_24, hr_24, hm⟩ := bd_e hm
    refine z_callSN (As := [.long (zl (b_wordSigns (Int.toNat r_14))), .int (zi 14), .int (zi 16383), .int (zi 4)]) (rest := []) (wr := [(zOX1 h b_words b_endings), (zB gw (h 206) 60 b_wordSigns)]) (ws' := [(zOX1 h b_words b_endings), (zB gw (h 206) 60 b_wordSigns)]) ⟨hx, hb, hml, hown, hts⟩ (c_X8_rowLength l gw h (b_wordSigns (Int.toNat r_14)) 14 16383 4 r_24 hr_24 H.size) ⟨va_cnB 4 hts gX1_signsOf_X8_rowLength_n85 rfl rfl rfl (hK.2.2 (RX1, 85, yX8_rowLength, RX8) (List.mem_of_getElem? (i := 35) rfl)) (hts (.initialized RX8) (by decide +kernel)) (by decide +kernel) ⟨Nat.le_of_ble_eq_true rfl, Nat.le_of_ble_eq_true rfl⟩, (hts (.static yX8_rowLength) (by decide +kernel)), trivial⟩ hK hP hD hS hA [] [0, 1] [0, 1] (by decide) rfl rfl (by decide) (by decide) rfl (by decide) rfl hl.1 (Nat.le_of_ble_eq_true rfl) dX1_signsOf_24 ⟨Nat.zero_le _, Nat.zero_le _⟩ rfl (fun H locs hP hD hS => ?_)
    have hP : va_P gw.1 vwCl [(zOX1 h b_words b_endings), (zB gw (h 206) 60 b_wordSigns)] H := hP
    have hD : va_D A [(zOX1 h b_words b_endings), (zB gw (h 206) 60 b_wordSigns)] := hD
    refine W.eq (g2 := F0 m 27 ls [.int (zi r_24)]) rfl ?_
    refine lv_iload_n hx hb dX1_signsOf_27 rfl (lv_at hl 1 rfl) ?_
    obtain ⟨r_28, hr_28, hm⟩ := bd_e hm
    refine z_callSN (As := [.int (zi x1)]) (rest := [.int (zi r_24)]) (wr := [(zOX1 h b_words b_endings), (zB gw (h 206) 60 b_wordSigns)]) (ws' := [(zOX1 h b_words b_endings), (zB gw (h 206) 60 b_wordSigns)]) ⟨hx, hb, hml, hown, hts⟩ (c_X8_endingOf l gw h x1 r_28 hr_28 H.size) ⟨va_cnB 1 hts gX1_signsOf_X8_endingOf_n89 rfl rfl rfl (hK.2.2 (RX1, 89, yX8_endingOf, RX8) (List.mem_of_getElem? (i := 36) rfl)) (hts (.initialized RX8) (by decide +kernel)) (by decide +kernel) ⟨Nat.le_of_ble_eq_true rfl, Nat.le_of_ble_eq_true rfl⟩, (hts (.static yX8_endingOf) (by decide +kernel)), trivial⟩ hK hP hD hS hA [] [0, 1] [0, 1] (by decide) rfl rfl (by decide) (by decide) rfl (by decide) rfl hl.1 (Nat.le_of_ble_eq_true rfl) dX1_signsOf_28 ⟨Nat.zero_le _, Nat.zero_le _⟩ rfl (fun H locs hP hD hS => ?_)
    have hP : va_P gw.1 vwCl [(zOX1 h b_words b_endings), (zB gw (h 206) 60 b_wordSigns)] H := hP
    have hD : va_D A [(zOX1 h b_words b_endings), (zB gw (h 206) 60 b_wordSigns)] := hD
    refine W.eq (g2 := F0 m 31 ls [.int (zi r_28), .int (zi r_24)]) rfl ?_
    refine lv_iconst (v := zi (-1)) hx hb dX1_signsOf_31 rfl ?_
    obtain ⟨g_32, hm⟩ := gd_e hm
    refine z_icmp_ne (tgt := 39) hx hb g_32 (by decide) dX1_signsOf_32 (by decide) (fun c_32 => ?_) (fun c_32 => ?_)
    · have hm := if_n hm c_32
      refine lv_iconst (v := zi 1) hx hb dX1_signsOf_39 rfl ?_
      refine z_iadd hx hb dX1_signsOf_40 ?_
      cases hm
      exact z_iret hx hb hr hlk hP hD hS dX1_signsOf_41
    · have hm := if_p hm c_32
      refine lv_iconst (v := zi 0) hx hb dX1_signsOf_35 rfl ?_
      refine lv_goto (tgt := 40) hx hb dX1_signsOf_36 (by decide) ?_
      refine z_iadd hx hb dX1_signsOf_40 ?_
      cases hm
      exact z_iret hx hb hr hlk hP hD hS dX1_signsOf_41
  · have hm := if_p hm c_4
    refine lv_iconst (v := zi 1) hx hb dX1_signsOf_7 rfl ?_
    cases hm
    exact z_iret hx hb hr hlk hP hD hS dX1_signsOf_8
theorem c_X1_signsOf (l : Launch) (gw : zG) (h : Nat → Nat) (b_words : Int) (b_endings : Int) (x1 : Int) (b_wordSigns : Nat → Int) (u : Int) (hm : m_X1_signsOf x1 b_wordSigns = some u) (sz : Nat) : Met l yX1_signsOf wsX1_signsOf rmX1_signsOf (va_Pc [.ref (h 1), .int (zi x1)] (zPre gw [(zOX1 h b_words b_endings), (zB gw (h 206) 60 b_wordSigns)] sz)) (zQ gw (some (.int (zi u))) [(zOX1 h b_words b_endings), (zB gw (h 206) 60 b_wordSigns)] (va_A [(zOX1 h b_words b_endings), (zB gw (h 206) 60 b_wordSigns)] sz)) 0 0 (va_A [(zOX1 h b_words b_endings), (zB gw (h 206) 60 b_wordSigns)] sz) :=
  z_met (by decide) rfl (Nat.le_of_ble_eq_true rfl) rfl (fun p e s m args below meth c A F hsz ls hl hP hD => w_X1_signsOf F h b_words b_endings x1 b_wordSigns u hm s.heap [] ls hP hD va_S.rf hl)
abbrev rmX1_signAt : Room := { frames := 2, cells := 0, slots := 0, locals := 50 }
theorem iX1_signAt_X1 : ∀ w ∈ wsX10, w ∈ wsX1_signAt := by decide +kernel
def m_X1_signAt_44 (x1 : Int) (x2 : Int) (b_wordSigns : Nat → Int) (b_endingSigns : Nat → Int) : Option (Int) :=
  (m_X8_wordOf x1).bind fun r_49 =>
  gd (0 ≤ r_49 ∧ r_49 < 60) <|
  gd (inL (b_wordSigns (Int.toNat r_49))) <|
  gd (0 ≤ (x2 * 14) ∧ (x2 * 14) < 64) <|
  some (((b_wordSigns (Int.toNat r_49)) / 2 ^ Int.toNat (x2 * 14)) % 16384)
set_option maxHeartbeats 4000000 in
set_option maxRecDepth 100000 in
theorem w_X1_signAt_44 (F : zF p s m args meth c A gw cX1_signAt 5 (some .int) wsX1_signAt yX1_signAt) (h : Nat → Nat) (b_words : Int) (b_endings : Int) (x1 : Int) (x2 : Int) (b_wordSigns : Nat → Int) (b_endingSigns : Nat → Int) (u : Int) (hm : m_X1_signAt_44 x1 x2 b_wordSigns b_endingSigns = some u) (H : Heap) (locs : List Loc) (ls : Array Slot) (hP : va_P gw.1 vwCl [(zOX1 h b_words b_endings), (zB gw (h 206) 60 b_wordSigns), (zA gw (h 212) 8 b_endingSigns)] H) (hD : va_D A [(zOX1 h b_words b_endings), (zB gw (h 206) 60 b_wordSigns), (zA gw (h 212) 8 b_endingSigns)]) (hS : va_S A s.heap H locs) (hl : lv_has ls 5 [(0, .ref (h 1)), (1, .int (zi x1)), (2, .int (zi x2))]) : W p l e rmX1_signAt s m args below meth c H locs 0 0 (MQ below (zQ gw (some (.int (zi u))) [(zOX1 h b_words b_endings), (zB gw (h 206) 60 b_wordSigns), (zA gw (h 212) 8 b_endingSigns)] A) args s 0 0 A) (F0 m 44 ls []) := by
  obtain ⟨hx, hb, hml, hr, hown, hts, hlk, hK, hA, hnm⟩ := id F
  have hown : s.vm.findClass RX1 = some m.cls := hown
  unfold m_X1_signAt_44 at hm
  refine lv_aload_n hx hb dX1_signAt_44 rfl (lv_at hl 0 rfl) ?_
  refine va_get (D := gw.1) (ci := 1) (v := .ref (h 206)) (C := RX1) (T := TX1) (N := 19) hx hb hts iX1_signAt_X1 hown hK.1 hP 0 rfl rfl 6 (by decide) (hts (.fieldLink RX1 28 "SoundLine$Book" "wordSigns" "[J") (by decide +kernel)) (fun _ h9 => h9) rfl dX1_signAt_45 ?_
  refine lv_iload_n hx hb dX1_signAt_48 rfl (lv_at hl 1 rfl) ?_
  obtain ⟨r_49, hr_49, hm⟩ := bd_e hm
  refine z_callSN (As := [.int (zi x1)]) (rest := [.ref (h 206)]) (wr := [(zOX1 h b_words b_endings), (zB gw (h 206) 60 b_wordSigns), (zA gw (h 212) 8 b_endingSigns)]) (ws' := [(zOX1 h b_words b_endings), (zB gw (h 206) 60 b_wordSigns), (zA gw (h 212) 8 b_endingSigns)]) ⟨hx, hb, hml, hown, hts⟩ (c_X8_wordOf l gw h x1 r_49 hr_49 H.size) ⟨va_cnB 1 hts gX1_signAt_X8_wordOf_n75 rfl rfl rfl (hK.2.2 (RX1, 75, yX8_wordOf, RX8) (List.mem_of_getElem? (i := 34) rfl)) (hts (.initialized RX8) (by decide +kernel)) (by decide +kernel) ⟨Nat.le_of_ble_eq_true rfl, Nat.le_of_ble_eq_true rfl⟩, (hts (.static yX8_wordOf) (by decide +kernel)), trivial⟩ hK hP hD hS hA [] [0, 1, 2] [0, 1, 2] (by decide) rfl rfl (by decide) (by decide) rfl (by decide) rfl hl.1 (Nat.le_of_ble_eq_true rfl) dX1_signAt_49 ⟨Nat.zero_le _, Nat.zero_le _⟩ rfl (fun H locs hP hD hS => ?_)
  have hP : va_P gw.1 vwCl [(zOX1 h b_words b_endings), (zB gw (h 206) 60 b_wordSigns), (zA gw (h 212) 8 b_endingSigns)] H := hP
  have hD : va_D A [(zOX1 h b_words b_endings), (zB gw (h 206) 60 b_wordSigns), (zA gw (h 212) 8 b_endingSigns)] := hD
  refine W.eq (g2 := F0 m 52 ls [.int (zi r_49), .ref (h 206)]) rfl ?_
  obtain ⟨g_52, hm⟩ := gd_e hm
  refine z_lald hx hb hK hP 1 rfl g_52 (by decide) dX1_signAt_52 ?_
  refine lv_iload_n hx hb dX1_signAt_53 rfl (lv_at hl 2 rfl) ?_
  refine lv_bipush (v := zi 14) hx hb dX1_signAt_54 (by decide) ?_
  refine z_imul hx hb dX1_signAt_56 ?_
  obtain ⟨g_57, hm⟩ := gd_e hm
  obtain ⟨g_57_v2, hm⟩ := gd_e hm
  refine z_lshr hx hb ⟨g_57, g_57_v2⟩ dX1_signAt_57 ?_
  refine z_l2i hx hb dX1_signAt_58 ?_
  refine lv_sipush (v := zi 16383) hx hb dX1_signAt_59 (by decide) ?_
  refine z_iandm (d := 16384) hx hb 14 (by decide) (by decide) (by decide) dX1_signAt_62 ?_
  cases hm
  exact z_iret hx hb hr hlk hP hD hS dX1_signAt_63
def m_X1_signAt (x1 : Int) (x2 : Int) (x3 : Int) (b_wordSigns : Nat → Int) (b_endingSigns : Nat → Int) : Option (Int) :=
  gd (inI x1) <|
  if x1 = 540 then
    some (20000 + x3)
  else
    (m_X8_endingOf x1).bind fun r_14 =>
    gd (inI r_14) <|
    if r_14 = (-1) then
      m_X1_signAt_44 x1 x2 b_wordSigns b_endingSigns
    else
      (m_X1_signsOf x1 b_wordSigns).bind fun r_28 =>
      gd (inI x2) <|
      gd (inI (r_28 - 1)) <|
      if x2 = (r_28 - 1) then
        gd (0 ≤ r_14 ∧ r_14 < 8) <|
        some (b_endingSigns (Int.toNat r_14))
      else
        m_X1_signAt_44 x1 x2 b_wordSigns b_endingSigns
set_option maxHeartbeats 4000000 in
set_option maxRecDepth 100000 in
theorem w_X1_signAt (F : zF p s m args meth c A gw cX1_signAt 5 (some .int) wsX1_signAt yX1_signAt) (h : Nat → Nat) (b_words : Int) (b_endings : Int) (x1 : Int) (x2 : Int) (x3 : Int) (b_wordSigns : Nat → Int) (b_endingSigns : Nat → Int) (u : Int) (hm : m_X1_signAt x1 x2 x3 b_wordSigns b_endingSigns = some u) (H : Heap) (locs : List Loc) (ls : Array Slot) (hP : va_P gw.1 vwCl [(zOX1 h b_words b_endings), (zB gw (h 206) 60 b_wordSigns), (zA gw (h 212) 8 b_endingSigns)] H) (hD : va_D A [(zOX1 h b_words b_endings), (zB gw (h 206) 60 b_wordSigns), (zA gw (h 212) 8 b_endingSigns)]) (hS : va_S A s.heap H locs) (hl : lv_has ls 5 [(0, .ref (h 1)), (1, .int (zi x1)), (2, .int (zi x2)), (3, .int (zi x3))]) : W p l e rmX1_signAt s m args below meth c H locs 0 0 (MQ below (zQ gw (some (.int (zi u))) [(zOX1 h b_words b_endings), (zB gw (h 206) 60 b_wordSigns), (zA gw (h 212) 8 b_endingSigns)] A) args s 0 0 A) (F0 m 0 ls []) := by
  obtain ⟨hx, hb, hml, hr, hown, hts, hlk, hK, hA, hnm⟩ := id F
  have hown : s.vm.findClass RX1 = some m.cls := hown
  unfold m_X1_signAt at hm
  refine lv_iload_n hx hb dX1_signAt_0 rfl (lv_at hl 1 rfl) ?_
  refine lv_sipush (v := zi 540) hx hb dX1_signAt_1 (by decide) ?_
  obtain ⟨g_4, hm⟩ := gd_e hm
  refine z_icmp_ne (tgt := 13) hx hb g_4 (by decide) dX1_signAt_4 (by decide) (fun c_4 => ?_) (fun c_4 => ?_)
  · have hm := if_n hm c_4
    refine lv_iload_n hx hb dX1_signAt_13 rfl (lv_at hl 1 rfl) ?_
    obtain ⟨r_14, hr_14, hm⟩ := bd_e hm
    refine z_callSN (As := [.int (zi x1)]) (rest := []) (wr := [(zOX1 h b_words b_endings), (zB gw (h 206) 60 b_wordSigns), (zA gw (h 212) 8 b_endingSigns)]) (ws' := [(zOX1 h b_words b_endings), (zB gw (h 206) 60 b_wordSigns), (zA gw (h 212) 8 b_endingSigns)]) ⟨hx, hb, hml, hown, hts⟩ (c_X8_endingOf l gw h x1 r_14 hr_14 H.size) ⟨va_cnB 1 hts gX1_signAt_X8_endingOf_n89 rfl rfl rfl (hK.2.2 (RX1, 89, yX8_endingOf, RX8) (List.mem_of_getElem? (i := 36) rfl)) (hts (.initialized RX8) (by decide +kernel)) (by decide +kernel) ⟨Nat.le_of_ble_eq_true rfl, Nat.le_of_ble_eq_true rfl⟩, (hts (.static yX8_endingOf) (by decide +kernel)), trivial⟩ hK hP hD hS hA [] [0, 1, 2] [0, 1, 2] (by decide) rfl rfl (by decide) (by decide) rfl (by decide) rfl hl.1 (Nat.le_of_ble_eq_true rfl) dX1_signAt_14 ⟨Nat.zero_le _, Nat.zero_le _⟩ rfl (fun H locs hP hD hS => ?_)
    have hP : va_P gw.1 vwCl [(zOX1 h b_words b_endings), (zB gw (h 206) 60 b_wordSigns), (zA gw (h 212) 8 b_endingSigns)] H := hP
    have hD : va_D A [(zOX1 h b_words b_endings), (zB gw (h 206) 60 b_wordSigns), (zA gw (h 212) 8 b_endingSigns)] := hD
    refine W.eq (g2 := F0 m 17 ls [.int (zi r_14)]) rfl ?_
    refine lv_istore (lv' := [(4, .int (zi r_14)), (0, .ref (h 1)), (1, .int (zi x1)), (2, .int (zi x2)), (3, .int (zi x3))]) hx hb dX1_signAt_17 hl (by decide) rfl (fun ls hl => ?_)
    refine lv_iload hx hb dX1_signAt_19 (lv_at hl 0 rfl) ?_
    refine lv_iconst (v := zi (-1)) hx hb dX1_signAt_21 rfl ?_
    obtain ⟨g_22, hm⟩ := gd_e hm
    refine z_icmp_eq (tgt := 44) hx hb g_22 (by decide) dX1_signAt_22 (by decide) (fun c_22 => ?_) (fun c_22 => ?_)
    · have hm := if_p hm c_22
      exact w_X1_signAt_44 F h b_words b_endings x1 x2 b_wordSigns b_endingSigns _ hm _ _ _ hP hD hS (lv_sub hl [1, 2, 3] rfl)
    · have hm := if_n hm c_22
      refine lv_iload_n hx hb dX1_signAt_25 rfl (lv_at hl 3 rfl) ?_
      refine lv_aload_n hx hb dX1_signAt_26 rfl (lv_at hl 1 rfl) ?_
      refine lv_iload_n hx hb dX1_signAt_27 rfl (lv_at hl 2 rfl) ?_
      obtain ⟨r_28, hr_28, hm⟩ := bd_e hm
      refine z_callV (As := [.int (zi x1)]) (rest := [.int (zi x2)]) (wr := [(zA gw (h 212) 8 b_endingSigns)]) (ws' := [(zOX1 h b_words b_endings), (zB gw (h 206) 60 b_wordSigns), (zA gw (h 212) 8 b_endingSigns)]) ⟨hx, hb, hml, hown, hts⟩ (c_X1_signsOf l gw h b_words b_endings x1 b_wordSigns r_28 hr_28 H.size) (cwV 1 hts gX1_signAt_X1_signsOf rfl rfl rfl (by decide +kernel) ⟨Nat.le_of_ble_eq_true rfl, Nat.le_of_ble_eq_true rfl⟩) hK hP hD hS hA [0, 1] [2] [1, 2, 0] (by decide) rfl rfl (by decide) (by decide) rfl (by decide) 0 1 rfl rfl rfl rfl hl.1 (Nat.le_of_ble_eq_true rfl) dX1_signAt_28 ⟨Nat.zero_le _, Nat.zero_le _⟩ rfl (fun H locs hP hD hS => ?_)
      have hP : va_P gw.1 vwCl [(zOX1 h b_words b_endings), (zB gw (h 206) 60 b_wordSigns), (zA gw (h 212) 8 b_endingSigns)] H := hP
      have hD : va_D A [(zOX1 h b_words b_endings), (zB gw (h 206) 60 b_wordSigns), (zA gw (h 212) 8 b_endingSigns)] := hD
      refine W.eq (g2 := F0 m 31 ls [.int (zi r_28), .int (zi x2)]) rfl ?_
      refine lv_iconst (v := zi 1) hx hb dX1_signAt_31 rfl ?_
      refine z_isub hx hb dX1_signAt_32 ?_
      obtain ⟨g_33, hm⟩ := gd_e hm
      obtain ⟨g_33_v2, hm⟩ := gd_e hm
      refine z_icmp_ne (tgt := 44) hx hb g_33 g_33_v2 dX1_signAt_33 (by decide) (fun c_33 => ?_) (fun c_33 => ?_)
      · have hm := if_n hm c_33
        exact w_X1_signAt_44 F h b_words b_endings x1 x2 b_wordSigns b_endingSigns _ hm _ _ _ hP hD hS (lv_sub hl [1, 2, 3] rfl)
      · have hm := if_p hm c_33
        refine lv_aload_n hx hb dX1_signAt_36 rfl (lv_at hl 1 rfl) ?_
        refine va_get (D := gw.1) (ci := 1) (v := .ref (h 212)) (C := RX1) (T := TX1) (N := 19) hx hb hts iX1_signAt_X1 hown hK.1 hP 0 rfl rfl 12 (by decide) (hts (.fieldLink RX1 43 "SoundLine$Book" "endingSigns" "[I") (by decide +kernel)) (fun _ h9 => h9) rfl dX1_signAt_37 ?_
        refine lv_iload hx hb dX1_signAt_40 (lv_at hl 0 rfl) ?_
        obtain ⟨g_42, hm⟩ := gd_e hm
        refine z_iald hx hb hK hP 2 rfl g_42 (by decide) dX1_signAt_42 ?_
        cases hm
        exact z_iret hx hb hr hlk hP hD hS dX1_signAt_43
  · have hm := if_p hm c_4
    refine lv_sipush (v := zi 20000) hx hb dX1_signAt_7 (by decide) ?_
    refine lv_iload_n hx hb dX1_signAt_10 rfl (lv_at hl 3 rfl) ?_
    refine z_iadd hx hb dX1_signAt_11 ?_
    cases hm
    exact z_iret hx hb hr hlk hP hD hS dX1_signAt_12
theorem c_X1_signAt (l : Launch) (gw : zG) (h : Nat → Nat) (b_words : Int) (b_endings : Int) (x1 : Int) (x2 : Int) (x3 : Int) (b_wordSigns : Nat → Int) (b_endingSigns : Nat → Int) (u : Int) (hm : m_X1_signAt x1 x2 x3 b_wordSigns b_endingSigns = some u) (sz : Nat) : Met l yX1_signAt wsX1_signAt rmX1_signAt (va_Pc [.ref (h 1), .int (zi x1), .int (zi x2), .int (zi x3)] (zPre gw [(zOX1 h b_words b_endings), (zB gw (h 206) 60 b_wordSigns), (zA gw (h 212) 8 b_endingSigns)] sz)) (zQ gw (some (.int (zi u))) [(zOX1 h b_words b_endings), (zB gw (h 206) 60 b_wordSigns), (zA gw (h 212) 8 b_endingSigns)] (va_A [(zOX1 h b_words b_endings), (zB gw (h 206) 60 b_wordSigns), (zA gw (h 212) 8 b_endingSigns)] sz)) 0 0 (va_A [(zOX1 h b_words b_endings), (zB gw (h 206) 60 b_wordSigns), (zA gw (h 212) 8 b_endingSigns)] sz) :=
  z_met (by decide) rfl (Nat.le_of_ble_eq_true rfl) rfl (fun p e s m args below meth c A F hsz ls hl hP hD => w_X1_signAt F h b_words b_endings x1 x2 x3 b_wordSigns b_endingSigns u hm s.heap [] ls hP hD va_S.rf hl)
abbrev rmJ7_fill_53178 : Room := { frames := 0, cells := 0, slots := 0, locals := 0 }
def m_J7_fill_53178_5 (x1 : Int) (x2 : Int) (x3 : Int) (g0 : Nat → Int) (gn0 : Nat) : Option (Nat × (Int × (Nat → Int))) :=
  gd (inI x2) <|
  gd (inI x3) <|
  if x3 ≤ x2 then
    some (1, (x2, g0))
  else
    gd (0 ≤ x2 ∧ x2 < (gn0 : Int)) <|
    vl (uz g0 (Int.toNat x2) x1) fun g0_13 =>
    vl (x2 + 1) fun x2_14 =>
    some (0, (x2_14, g0_13))
set_option maxHeartbeats 4000000 in
set_option maxRecDepth 100000 in
theorem w_J7_fill_53178_5 (F : zF p s m args meth c A gw cJ7_fill_53178 4 none wsJ7_fill_53178 yJ7_fill_53178) (h : Nat → Nat) (ga0 : Nat) (gn0 : Nat) (hg0 : gn0 < 2147483648)  (x1 : Int) (x2 : Int) (x3 : Int) (g0 : Nat → Int) (u : Nat × (Int × (Nat → Int))) (hm : m_J7_fill_53178_5 x1 x2 x3 g0 gn0 = some u) (H : Heap) (locs : List Loc) (ls : Array Slot) (hP : va_P gw.1 vwCl [(zA gw ga0 gn0 g0)] H) (hD : va_D A [(zA gw ga0 gn0 g0)]) (hS : va_S A s.heap H locs) (hl : lv_has ls 4 [(0, .ref ga0), (1, .int (zi x1)), (2, .int (zi x2)), (3, .int (zi x3))]) (k0 : u.1 = 0 → ∀ (H : Heap) (locs : List Loc) (ls : Array Slot), va_P gw.1 vwCl [(zA gw ga0 gn0 (u.2.2))] H → va_D A [(zA gw ga0 gn0 (u.2.2))] → va_S A s.heap H locs → lv_has ls 4 [(0, .ref ga0), (1, .int (zi x1)), (2, .int (zi (u.2.1))), (3, .int (zi x3))] → W p l e rmJ7_fill_53178 s m args below meth c H locs 0 0 Q (F0 m 5 ls [])) (k1 : u.1 = 1 → ∀ (H : Heap) (locs : List Loc) (ls : Array Slot), va_P gw.1 vwCl [(zA gw ga0 gn0 (u.2.2))] H → va_D A [(zA gw ga0 gn0 (u.2.2))] → va_S A s.heap H locs → lv_has ls 4 [] → W p l e rmJ7_fill_53178 s m args below meth c H locs 0 0 Q (F0 m 20 ls [])) : W p l e rmJ7_fill_53178 s m args below meth c H locs 0 0 Q (F0 m 5 ls []) := by
  obtain ⟨hx, hb, hml, hr, hown, hts, hlk, hK, hA, hnm⟩ := id F
  have hown : s.vm.findClass RJ7 = some m.cls := hown
  unfold m_J7_fill_53178_5 at hm
  refine lv_iload_n hx hb dJ7_fill_53178_5 rfl (lv_at hl 2 rfl) ?_
  refine lv_iload_n hx hb dJ7_fill_53178_6 rfl (lv_at hl 3 rfl) ?_
  obtain ⟨g_7, hm⟩ := gd_e hm
  obtain ⟨g_7_v2, hm⟩ := gd_e hm
  refine z_icmp_ge (tgt := 20) hx hb g_7 g_7_v2 dJ7_fill_53178_7 (by decide) (fun c_7 => ?_) (fun c_7 => ?_)
  · have hm := if_p hm c_7
    cases hm
    exact k1 rfl _ _ _ hP hD hS (lv_sub hl [] rfl)
  · have hm := if_n hm c_7
    refine lv_aload_n hx hb dJ7_fill_53178_10 rfl (lv_at hl 0 rfl) ?_
    refine lv_iload_n hx hb dJ7_fill_53178_11 rfl (lv_at hl 2 rfl) ?_
    refine lv_iload_n hx hb dJ7_fill_53178_12 rfl (lv_at hl 1 rfl) ?_
    obtain ⟨g_13, hm⟩ := gd_e hm
    obtain ⟨g0_13, e_g0_13, hm⟩ := vl_e hm
    refine z_iast hx hb hK hP hD hS 0 rfl g_13 (Nat.le_of_lt hg0) e_g0_13 dJ7_fill_53178_13 (fun H locs hP hD hS => ?_)
    have hP : va_P gw.1 vwCl [(zA gw ga0 gn0 g0_13)] H := hP
    have hD : va_D A [(zA gw ga0 gn0 g0_13)] := hD
    obtain ⟨x2_14, e_x2_14, hm⟩ := vl_e hm
    refine lv_iinc (v := zi x2_14) (lv' := [(2, .int (zi x2_14)), (0, .ref ga0), (1, .int (zi x1)), (3, .int (zi x3))]) hx hb dJ7_fill_53178_14 hl (k := 2) rfl (by rw [e_x2_14]; exact zi_add _ _) (by decide) rfl (fun ls hl => ?_)
    refine lv_goto (tgt := 5) hx hb dJ7_fill_53178_17 (by decide) ?_
    cases hm
    exact k0 rfl _ _ _ hP hD hS (lv_sub hl [1, 2, 0, 3] rfl)
set_option maxHeartbeats 4000000 in
theorem l_J7_fill_53178_5 (F : zF p s m args meth c A gw cJ7_fill_53178 4 none wsJ7_fill_53178 yJ7_fill_53178) (h : Nat → Nat) (ga0 : Nat) (gn0 : Nat) (hg0 : gn0 < 2147483648)  (x1 : Int) (x3 : Int) (n : Nat) (a : Int × (Nat → Int)) (u : Nat × (Int × (Nat → Int))) (hm : zloop (fun a => m_J7_fill_53178_5 x1 a.1 x3 a.2 gn0) n a = some u) (k1 : u.1 = 1 → ∀ (H : Heap) (locs : List Loc) (ls : Array Slot), va_P gw.1 vwCl [(zA gw ga0 gn0 (u.2.2))] H → va_D A [(zA gw ga0 gn0 (u.2.2))] → va_S A s.heap H locs → lv_has ls 4 [] → W p l e rmJ7_fill_53178 s m args below meth c H locs 0 0 Q (F0 m 20 ls [])) (H : Heap) (locs : List Loc) (ls : Array Slot) (hP : va_P gw.1 vwCl [(zA gw ga0 gn0 (a.2))] H) (hD : va_D A [(zA gw ga0 gn0 (a.2))]) (hS : va_S A s.heap H locs) (hl : lv_has ls 4 [(0, .ref ga0), (1, .int (zi x1)), (2, .int (zi (a.1))), (3, .int (zi x3))]) : W p l e rmJ7_fill_53178 s m args below meth c H locs 0 0 Q (F0 m 5 ls []) := by
  refine zloop_ind (P := fun a => ∀ (H : Heap) (locs : List Loc) (ls : Array Slot), va_P gw.1 vwCl [(zA gw ga0 gn0 (a.2))] H → va_D A [(zA gw ga0 gn0 (a.2))] → va_S A s.heap H locs → lv_has ls 4 [(0, .ref ga0), (1, .int (zi x1)), (2, .int (zi (a.1))), (3, .int (zi x3))] → W p l e rmJ7_fill_53178 s m args below meth c H locs 0 0 Q (F0 m 5 ls [])) (K := fun w => (w.1 = 1 → ∀ (H : Heap) (locs : List Loc) (ls : Array Slot), va_P gw.1 vwCl [(zA gw ga0 gn0 (w.2.2))] H → va_D A [(zA gw ga0 gn0 (w.2.2))] → va_S A s.heap H locs → lv_has ls 4 [] → W p l e rmJ7_fill_53178 s m args below meth c H locs 0 0 Q (F0 m 20 ls []))) (fun a w hb h0 hk H locs ls hP hD hS hl => ?_) n a u hm (fun _ => k1) H locs ls hP hD hS hl
  exact w_J7_fill_53178_5 F h ga0 gn0 hg0  x1 a.1 x3 a.2 w hb H locs ls hP hD hS hl (fun z H locs ls hP hD hS hl => h0 z H locs ls hP hD hS hl) (fun z => (hk (by rw [z]; decide)) z)
def m_J7_fill_53178 (x1 : Int) (g0 : Nat → Int) (gn0 : Nat) : Option ((Nat → Int)) :=
  vl (gn0 : Int) fun x3_4 =>
  (zloop (fun a => m_J7_fill_53178_5 x1 a.1 x3_4 a.2 gn0) FU (0, g0)).bind fun (t_5, x2_5, g0_5) =>
  some g0_5
set_option maxHeartbeats 4000000 in
set_option maxRecDepth 100000 in
theorem w_J7_fill_53178 (F : zF p s m args meth c A gw cJ7_fill_53178 4 none wsJ7_fill_53178 yJ7_fill_53178) (h : Nat → Nat) (ga0 : Nat) (gn0 : Nat) (hg0 : gn0 < 2147483648) (x1 : Int) (g0 : Nat → Int) (u : (Nat → Int)) (hm : m_J7_fill_53178 x1 g0 gn0 = some u) (H : Heap) (locs : List Loc) (ls : Array Slot) (hP : va_P gw.1 vwCl [(zA gw ga0 gn0 g0)] H) (hD : va_D A [(zA gw ga0 gn0 g0)]) (hS : va_S A s.heap H locs) (hl : lv_has ls 4 [(0, .ref ga0), (1, .int (zi x1))]) : W p l e rmJ7_fill_53178 s m args below meth c H locs 0 0 (MQ below (zQ gw none [(zA gw ga0 gn0 u)] A) args s 0 0 A) (F0 m 0 ls []) := by
  obtain ⟨hx, hb, hml, hr, hown, hts, hlk, hK, hA, hnm⟩ := id F
  have hown : s.vm.findClass RJ7 = some m.cls := hown
  unfold m_J7_fill_53178 at hm
  refine lv_iconst (v := zi 0) hx hb dJ7_fill_53178_0 rfl ?_
  refine lv_istore_n (lv' := [(2, .int (zi 0)), (0, .ref ga0), (1, .int (zi x1))]) hx hb dJ7_fill_53178_1 rfl hl (by decide) rfl (fun ls hl => ?_)
  refine lv_aload_n hx hb dJ7_fill_53178_2 rfl (lv_at hl 1 rfl) ?_
  refine z_alen hx hb hK hP 0 rfl dJ7_fill_53178_3 ?_
  obtain ⟨x3_4, e_x3_4, hm⟩ := vl_e hm
  refine z_top e_x3_4 ?_
  refine lv_istore_n (lv' := [(3, .int (zi x3_4)), (2, .int (zi 0)), (0, .ref ga0), (1, .int (zi x1))]) hx hb dJ7_fill_53178_4 rfl hl (by decide) rfl (fun ls hl => ?_)
  obtain ⟨u_5, hu_5, hm⟩ := bd_e hm
  obtain ⟨t_5, x2_5, g0_5⟩ := u_5
  refine l_J7_fill_53178_5 F h ga0 gn0 hg0  x1 x3_4 FU (0, g0) _ hu_5 (fun z_5 H locs ls hP hD hS hl => ?_) _ _ _ hP hD hS (lv_sub hl [2, 3, 1, 0] rfl)
  have hP : va_P gw.1 vwCl [(zA gw ga0 gn0 g0_5)] H := hP
  have hD : va_D A [(zA gw ga0 gn0 g0_5)] := hD
  have hl : lv_has ls 4 [] := hl
  cases hm
  exact z_vret hx hb hr hlk hP hD hS dJ7_fill_53178_20
theorem c_J7_fill_53178 (l : Launch) (gw : zG) (h : Nat → Nat) (ga0 : Nat) (gn0 : Nat) (hg0 : gn0 < 2147483648) (x1 : Int) (g0 : Nat → Int) (u : (Nat → Int)) (hm : m_J7_fill_53178 x1 g0 gn0 = some u) (sz : Nat) : Met l yJ7_fill_53178 wsJ7_fill_53178 rmJ7_fill_53178 (va_Pc [.ref ga0, .int (zi x1)] (zPre gw [(zA gw ga0 gn0 g0)] sz)) (zQ gw none [(zA gw ga0 gn0 u)] (va_A [(zA gw ga0 gn0 g0)] sz)) 0 0 (va_A [(zA gw ga0 gn0 g0)] sz) :=
  z_met (by decide) rfl (Nat.le_of_ble_eq_true rfl) rfl (fun p e s m args below meth c A F hsz ls hl hP hD => w_J7_fill_53178 F h ga0 gn0 hg0 x1 g0 u hm s.heap [] ls hP hD va_S.rf hl)
abbrev rmX4_partsAt : Room := { frames := 0, cells := 0, slots := 0, locals := 0 }
theorem iX4_partsAt_X4 : ∀ w ∈ wsX40, w ∈ wsX4_partsAt := by decide +kernel
def m_X4_partsAt (x1 : Int) (s_length : Int) (s_breaks : Nat → Int) : Option (Int) :=
  gd (inI x1) <|
  if x1 = 0 then
    some 1
  else
    gd (inI s_length) <|
    if x1 = s_length then
      some 1
    else
      gd (0 ≤ x1 ∧ x1 < 36) <|
      gd (inI (s_breaks (Int.toNat x1))) <|
      if (s_breaks (Int.toNat x1)) = 2 then
        some 0
      else
        some 1
set_option maxHeartbeats 4000000 in
set_option maxRecDepth 100000 in
theorem w_X4_partsAt (F : zF p s m args meth c A gw cX4_partsAt 2 (some .boolean) wsX4_partsAt yX4_partsAt) (h : Nat → Nat) (x1 : Int) (s_length : Int) (s_breaks : Nat → Int) (u : Int) (hm : m_X4_partsAt x1 s_length s_breaks = some u) (H : Heap) (locs : List Loc) (ls : Array Slot) (hP : va_P gw.1 vwCl [(zOX4 h s_length), (zA gw (h 502) 36 s_breaks)] H) (hD : va_D A [(zOX4 h s_length), (zA gw (h 502) 36 s_breaks)]) (hS : va_S A s.heap H locs) (hl : lv_has ls 2 [(0, .ref (h 4)), (1, .int (zi x1))]) : W p l e rmX4_partsAt s m args below meth c H locs 0 0 (MQ below (zQ gw (some (.int (zi u))) [(zOX4 h s_length), (zA gw (h 502) 36 s_breaks)] A) args s 0 0 A) (F0 m 0 ls []) := by
  obtain ⟨hx, hb, hml, hr, hown, hts, hlk, hK, hA, hnm⟩ := id F
  have hown : s.vm.findClass RX4 = some m.cls := hown
  unfold m_X4_partsAt at hm
  refine lv_iload_n hx hb dX4_partsAt_0 rfl (lv_at hl 1 rfl) ?_
  obtain ⟨g_1, hm⟩ := gd_e hm
  refine z_if_eq (tgt := 22) hx hb g_1 dX4_partsAt_1 (by decide) (fun c_1 => ?_) (fun c_1 => ?_)
  · have hm := if_p hm c_1
    refine lv_iconst (v := zi 1) hx hb dX4_partsAt_22 rfl ?_
    refine lv_goto (tgt := 27) hx hb dX4_partsAt_23 (by decide) ?_
    cases hm
    exact z_zret hx hb hr hlk hP hD hS (Or.inr rfl) dX4_partsAt_27
  · have hm := if_n hm c_1
    refine lv_iload_n hx hb dX4_partsAt_4 rfl (lv_at hl 1 rfl) ?_
    refine lv_aload_n hx hb dX4_partsAt_5 rfl (lv_at hl 0 rfl) ?_
    refine va_get (D := gw.1) (ci := 4) (v := .int (zi s_length)) (C := RX4) (T := TX4) (N := 4) hx hb hts iX4_partsAt_X4 hown hK.1 hP 0 rfl rfl 0 (by decide) (hts (.fieldLink RX4 21 "SoundLine$Sheet" "length" "I") (by decide +kernel)) (fun _ h9 => h9) rfl dX4_partsAt_6 ?_
    obtain ⟨g_9, hm⟩ := gd_e hm
    refine z_icmp_eq (tgt := 22) hx hb g_1 g_9 dX4_partsAt_9 (by decide) (fun c_9 => ?_) (fun c_9 => ?_)
    · have hm := if_p hm c_9
      refine lv_iconst (v := zi 1) hx hb dX4_partsAt_22 rfl ?_
      refine lv_goto (tgt := 27) hx hb dX4_partsAt_23 (by decide) ?_
      cases hm
      exact z_zret hx hb hr hlk hP hD hS (Or.inr rfl) dX4_partsAt_27
    · have hm := if_n hm c_9
      refine lv_aload_n hx hb dX4_partsAt_12 rfl (lv_at hl 0 rfl) ?_
      refine va_get (D := gw.1) (ci := 4) (v := .ref (h 502)) (C := RX4) (T := TX4) (N := 4) hx hb hts iX4_partsAt_X4 hown hK.1 hP 0 rfl rfl 2 (by decide) (hts (.fieldLink RX4 15 "SoundLine$Sheet" "breaks" "[I") (by decide +kernel)) (fun _ h9 => h9) rfl dX4_partsAt_13 ?_
      refine lv_iload_n hx hb dX4_partsAt_16 rfl (lv_at hl 1 rfl) ?_
      obtain ⟨g_17, hm⟩ := gd_e hm
      refine z_iald hx hb hK hP 1 rfl g_17 (by decide) dX4_partsAt_17 ?_
      refine lv_iconst (v := zi 2) hx hb dX4_partsAt_18 rfl ?_
      obtain ⟨g_19, hm⟩ := gd_e hm
      refine z_icmp_eq (tgt := 26) hx hb g_19 (by decide) dX4_partsAt_19 (by decide) (fun c_19 => ?_) (fun c_19 => ?_)
      · have hm := if_p hm c_19
        refine lv_iconst (v := zi 0) hx hb dX4_partsAt_26 rfl ?_
        cases hm
        exact z_zret hx hb hr hlk hP hD hS (Or.inl rfl) dX4_partsAt_27
      · have hm := if_n hm c_19
        refine lv_iconst (v := zi 1) hx hb dX4_partsAt_22 rfl ?_
        refine lv_goto (tgt := 27) hx hb dX4_partsAt_23 (by decide) ?_
        cases hm
        exact z_zret hx hb hr hlk hP hD hS (Or.inr rfl) dX4_partsAt_27
theorem c_X4_partsAt (l : Launch) (gw : zG) (h : Nat → Nat) (x1 : Int) (s_length : Int) (s_breaks : Nat → Int) (u : Int) (hm : m_X4_partsAt x1 s_length s_breaks = some u) (sz : Nat) : Met l yX4_partsAt wsX4_partsAt rmX4_partsAt (va_Pc [.ref (h 4), .int (zi x1)] (zPre gw [(zOX4 h s_length), (zA gw (h 502) 36 s_breaks)] sz)) (zQ gw (some (.int (zi u))) [(zOX4 h s_length), (zA gw (h 502) 36 s_breaks)] (va_A [(zOX4 h s_length), (zA gw (h 502) 36 s_breaks)] sz)) 0 0 (va_A [(zOX4 h s_length), (zA gw (h 502) 36 s_breaks)] sz) :=
  z_met (by decide) rfl (Nat.le_of_ble_eq_true rfl) rfl (fun p e s m args below meth c A F hsz ls hl hP hD => w_X4_partsAt F h x1 s_length s_breaks u hm s.heap [] ls hP hD va_S.rf hl)
abbrev rmX4_reachFrom : Room := { frames := 0, cells := 0, slots := 0, locals := 0 }
theorem iX4_reachFrom_X4 : ∀ w ∈ wsX40, w ∈ wsX4_reachFrom := by decide +kernel
def m_X4_reachFrom_4 (x2 : Int) (s_length : Int) (s_breaks : Nat → Int) : Option (Nat × (Int)) :=
  gd (inI x2) <|
  gd (inI s_length) <|
  if s_length ≤ x2 then
    some (1, x2)
  else
    gd (0 ≤ x2 ∧ x2 < 36) <|
    gd (inI (s_breaks (Int.toNat x2))) <|
    if (s_breaks (Int.toNat x2)) = 1 then
      some (1, x2)
    else
      vl (x2 + 1) fun x2_22 =>
      some (0, x2_22)
set_option maxHeartbeats 4000000 in
set_option maxRecDepth 100000 in
theorem w_X4_reachFrom_4 (F : zF p s m args meth c A gw cX4_reachFrom 3 (some .int) wsX4_reachFrom yX4_reachFrom) (h : Nat → Nat)  (x2 : Int) (s_length : Int) (s_breaks : Nat → Int) (u : Nat × (Int)) (hm : m_X4_reachFrom_4 x2 s_length s_breaks = some u) (H : Heap) (locs : List Loc) (ls : Array Slot) (hP : va_P gw.1 vwCl [(zOX4 h s_length), (zA gw (h 502) 36 s_breaks)] H) (hD : va_D A [(zOX4 h s_length), (zA gw (h 502) 36 s_breaks)]) (hS : va_S A s.heap H locs) (hl : lv_has ls 3 [(0, .ref (h 4)), (2, .int (zi x2))]) (k0 : u.1 = 0 → ∀ (H : Heap) (locs : List Loc) (ls : Array Slot), va_P gw.1 vwCl [(zOX4 h s_length), (zA gw (h 502) 36 s_breaks)] H → va_D A [(zOX4 h s_length), (zA gw (h 502) 36 s_breaks)] → va_S A s.heap H locs → lv_has ls 3 [(0, .ref (h 4)), (2, .int (zi (u.2)))] → W p l e rmX4_reachFrom s m args below meth c H locs 0 0 Q (F0 m 4 ls [])) (k1 : u.1 = 1 → ∀ (H : Heap) (locs : List Loc) (ls : Array Slot), va_P gw.1 vwCl [(zOX4 h s_length), (zA gw (h 502) 36 s_breaks)] H → va_D A [(zOX4 h s_length), (zA gw (h 502) 36 s_breaks)] → va_S A s.heap H locs → lv_has ls 3 [(2, .int (zi (u.2)))] → W p l e rmX4_reachFrom s m args below meth c H locs 0 0 Q (F0 m 28 ls [])) : W p l e rmX4_reachFrom s m args below meth c H locs 0 0 Q (F0 m 4 ls []) := by
  obtain ⟨hx, hb, hml, hr, hown, hts, hlk, hK, hA, hnm⟩ := id F
  have hown : s.vm.findClass RX4 = some m.cls := hown
  unfold m_X4_reachFrom_4 at hm
  refine lv_iload_n hx hb dX4_reachFrom_4 rfl (lv_at hl 1 rfl) ?_
  refine lv_aload_n hx hb dX4_reachFrom_5 rfl (lv_at hl 0 rfl) ?_
  refine va_get (D := gw.1) (ci := 4) (v := .int (zi s_length)) (C := RX4) (T := TX4) (N := 4) hx hb hts iX4_reachFrom_X4 hown hK.1 hP 0 rfl rfl 0 (by decide) (hts (.fieldLink RX4 21 "SoundLine$Sheet" "length" "I") (by decide +kernel)) (fun _ h9 => h9) rfl dX4_reachFrom_6 ?_
  obtain ⟨g_9, hm⟩ := gd_e hm
  obtain ⟨g_9_v2, hm⟩ := gd_e hm
  refine z_icmp_ge (tgt := 28) hx hb g_9 g_9_v2 dX4_reachFrom_9 (by decide) (fun c_9 => ?_) (fun c_9 => ?_)
  · have hm := if_p hm c_9
    cases hm
    exact k1 rfl _ _ _ hP hD hS (lv_sub hl [1] rfl)
  · have hm := if_n hm c_9
    refine lv_aload_n hx hb dX4_reachFrom_12 rfl (lv_at hl 0 rfl) ?_
    refine va_get (D := gw.1) (ci := 4) (v := .ref (h 502)) (C := RX4) (T := TX4) (N := 4) hx hb hts iX4_reachFrom_X4 hown hK.1 hP 0 rfl rfl 2 (by decide) (hts (.fieldLink RX4 15 "SoundLine$Sheet" "breaks" "[I") (by decide +kernel)) (fun _ h9 => h9) rfl dX4_reachFrom_13 ?_
    refine lv_iload_n hx hb dX4_reachFrom_16 rfl (lv_at hl 1 rfl) ?_
    obtain ⟨g_17, hm⟩ := gd_e hm
    refine z_iald hx hb hK hP 1 rfl g_17 (by decide) dX4_reachFrom_17 ?_
    refine lv_iconst (v := zi 1) hx hb dX4_reachFrom_18 rfl ?_
    obtain ⟨g_19, hm⟩ := gd_e hm
    refine z_icmp_eq (tgt := 28) hx hb g_19 (by decide) dX4_reachFrom_19 (by decide) (fun c_19 => ?_) (fun c_19 => ?_)
    · have hm := if_p hm c_19
      cases hm
      exact k1 rfl _ _ _ hP hD hS (lv_sub hl [1] rfl)
    · have hm := if_n hm c_19
      obtain ⟨x2_22, e_x2_22, hm⟩ := vl_e hm
      refine lv_iinc (v := zi x2_22) (lv' := [(2, .int (zi x2_22)), (0, .ref (h 4))]) hx hb dX4_reachFrom_22 hl (k := 1) rfl (by rw [e_x2_22]; exact zi_add _ _) (by decide) rfl (fun ls hl => ?_)
      refine lv_goto (tgt := 4) hx hb dX4_reachFrom_25 (by decide) ?_
      cases hm
      exact k0 rfl _ _ _ hP hD hS (lv_sub hl [1, 0] rfl)
set_option maxHeartbeats 4000000 in
theorem l_X4_reachFrom_4 (F : zF p s m args meth c A gw cX4_reachFrom 3 (some .int) wsX4_reachFrom yX4_reachFrom) (h : Nat → Nat)  (s_length : Int) (s_breaks : Nat → Int) (n : Nat) (a : Int) (u : Nat × (Int)) (hm : zloop (fun a => m_X4_reachFrom_4 a s_length s_breaks) n a = some u) (k1 : u.1 = 1 → ∀ (H : Heap) (locs : List Loc) (ls : Array Slot), va_P gw.1 vwCl [(zOX4 h s_length), (zA gw (h 502) 36 s_breaks)] H → va_D A [(zOX4 h s_length), (zA gw (h 502) 36 s_breaks)] → va_S A s.heap H locs → lv_has ls 3 [(2, .int (zi (u.2)))] → W p l e rmX4_reachFrom s m args below meth c H locs 0 0 Q (F0 m 28 ls [])) (H : Heap) (locs : List Loc) (ls : Array Slot) (hP : va_P gw.1 vwCl [(zOX4 h s_length), (zA gw (h 502) 36 s_breaks)] H) (hD : va_D A [(zOX4 h s_length), (zA gw (h 502) 36 s_breaks)]) (hS : va_S A s.heap H locs) (hl : lv_has ls 3 [(0, .ref (h 4)), (2, .int (zi a))]) : W p l e rmX4_reachFrom s m args below meth c H locs 0 0 Q (F0 m 4 ls []) := by
  refine zloop_ind (P := fun a => ∀ (H : Heap) (locs : List Loc) (ls : Array Slot), va_P gw.1 vwCl [(zOX4 h s_length), (zA gw (h 502) 36 s_breaks)] H → va_D A [(zOX4 h s_length), (zA gw (h 502) 36 s_breaks)] → va_S A s.heap H locs → lv_has ls 3 [(0, .ref (h 4)), (2, .int (zi a))] → W p l e rmX4_reachFrom s m args below meth c H locs 0 0 Q (F0 m 4 ls [])) (K := fun w => (w.1 = 1 → ∀ (H : Heap) (locs : List Loc) (ls : Array Slot), va_P gw.1 vwCl [(zOX4 h s_length), (zA gw (h 502) 36 s_breaks)] H → va_D A [(zOX4 h s_length), (zA gw (h 502) 36 s_breaks)] → va_S A s.heap H locs → lv_has ls 3 [(2, .int (zi (w.2)))] → W p l e rmX4_reachFrom s m args below meth c H locs 0 0 Q (F0 m 28 ls []))) (fun a w hb h0 hk H locs ls hP hD hS hl => ?_) n a u hm (fun _ => k1) H locs ls hP hD hS hl
  exact w_X4_reachFrom_4 F h  a s_length s_breaks w hb H locs ls hP hD hS hl (fun z H locs ls hP hD hS hl => h0 z H locs ls hP hD hS hl) (fun z => (hk (by rw [z]; decide)) z)
def m_X4_reachFrom (x1 : Int) (s_length : Int) (s_breaks : Nat → Int) : Option (Int) :=
  vl (x1 + 1) fun x2_3 =>
  (zloop (fun a => m_X4_reachFrom_4 a s_length s_breaks) FU x2_3).bind fun (t_4, x2_4) =>
  some x2_4
set_option maxHeartbeats 4000000 in
set_option maxRecDepth 100000 in
theorem w_X4_reachFrom (F : zF p s m args meth c A gw cX4_reachFrom 3 (some .int) wsX4_reachFrom yX4_reachFrom) (h : Nat → Nat) (x1 : Int) (s_length : Int) (s_breaks : Nat → Int) (u : Int) (hm : m_X4_reachFrom x1 s_length s_breaks = some u) (H : Heap) (locs : List Loc) (ls : Array Slot) (hP : va_P gw.1 vwCl [(zOX4 h s_length), (zA gw (h 502) 36 s_breaks)] H) (hD : va_D A [(zOX4 h s_length), (zA gw (h 502) 36 s_breaks)]) (hS : va_S A s.heap H locs) (hl : lv_has ls 3 [(0, .ref (h 4)), (1, .int (zi x1))]) : W p l e rmX4_reachFrom s m args below meth c H locs 0 0 (MQ below (zQ gw (some (.int (zi u))) [(zOX4 h s_length), (zA gw (h 502) 36 s_breaks)] A) args s 0 0 A) (F0 m 0 ls []) := by
  obtain ⟨hx, hb, hml, hr, hown, hts, hlk, hK, hA, hnm⟩ := id F
  have hown : s.vm.findClass RX4 = some m.cls := hown
  unfold m_X4_reachFrom at hm
  refine lv_iload_n hx hb dX4_reachFrom_0 rfl (lv_at hl 1 rfl) ?_
  refine lv_iconst (v := zi 1) hx hb dX4_reachFrom_1 rfl ?_
  refine z_iadd hx hb dX4_reachFrom_2 ?_
  obtain ⟨x2_3, e_x2_3, hm⟩ := vl_e hm
  refine z_top e_x2_3 ?_
  refine lv_istore_n (lv' := [(2, .int (zi x2_3)), (0, .ref (h 4)), (1, .int (zi x1))]) hx hb dX4_reachFrom_3 rfl hl (by decide) rfl (fun ls hl => ?_)
  obtain ⟨u_4, hu_4, hm⟩ := bd_e hm
  obtain ⟨t_4, x2_4⟩ := u_4
  refine l_X4_reachFrom_4 F h  s_length s_breaks FU x2_3 _ hu_4 (fun z_4 H locs ls hP hD hS hl => ?_) _ _ _ hP hD hS (lv_sub hl [1, 0] rfl)
  have hP : va_P gw.1 vwCl [(zOX4 h s_length), (zA gw (h 502) 36 s_breaks)] H := hP
  have hD : va_D A [(zOX4 h s_length), (zA gw (h 502) 36 s_breaks)] := hD
  have hl : lv_has ls 3 [(2, .int (zi x2_4))] := hl
  refine lv_iload_n hx hb dX4_reachFrom_28 rfl (lv_at hl 0 rfl) ?_
  cases hm
  exact z_iret hx hb hr hlk hP hD hS dX4_reachFrom_29
theorem c_X4_reachFrom (l : Launch) (gw : zG) (h : Nat → Nat) (x1 : Int) (s_length : Int) (s_breaks : Nat → Int) (u : Int) (hm : m_X4_reachFrom x1 s_length s_breaks = some u) (sz : Nat) : Met l yX4_reachFrom wsX4_reachFrom rmX4_reachFrom (va_Pc [.ref (h 4), .int (zi x1)] (zPre gw [(zOX4 h s_length), (zA gw (h 502) 36 s_breaks)] sz)) (zQ gw (some (.int (zi u))) [(zOX4 h s_length), (zA gw (h 502) 36 s_breaks)] (va_A [(zOX4 h s_length), (zA gw (h 502) 36 s_breaks)] sz)) 0 0 (va_A [(zOX4 h s_length), (zA gw (h 502) 36 s_breaks)] sz) :=
  z_met (by decide) rfl (Nat.le_of_ble_eq_true rfl) rfl (fun p e s m args below meth c A F hsz ls hl hP hD => w_X4_reachFrom F h x1 s_length s_breaks u hm s.heap [] ls hP hD va_S.rf hl)
abbrev rmX8_fillRange : Room := { frames := 0, cells := 0, slots := 0, locals := 0 }
def m_X8_fillRange_3 (x2 : Int) (x3 : Int) (x4 : Int) (g0 : Nat → Int) (gn0 : Nat) : Option (Nat × (Int × (Nat → Int))) :=
  gd (inI x4) <|
  gd (inI x2) <|
  if x2 ≤ x4 then
    some (1, (x4, g0))
  else
    gd (0 ≤ x4 ∧ x4 < (gn0 : Int)) <|
    vl (uz g0 (Int.toNat x4) x3) fun g0_13 =>
    vl (x4 + 1) fun x4_14 =>
    some (0, (x4_14, g0_13))
set_option maxHeartbeats 4000000 in
set_option maxRecDepth 100000 in
theorem w_X8_fillRange_3 (F : zF p s m args meth c A gw cX8_fillRange 5 none wsX8_fillRange yX8_fillRange) (h : Nat → Nat) (ga0 : Nat) (gn0 : Nat) (hg0 : gn0 < 2147483648)  (x2 : Int) (x3 : Int) (x4 : Int) (g0 : Nat → Int) (u : Nat × (Int × (Nat → Int))) (hm : m_X8_fillRange_3 x2 x3 x4 g0 gn0 = some u) (H : Heap) (locs : List Loc) (ls : Array Slot) (hP : va_P gw.1 vwCl [(zA gw ga0 gn0 g0)] H) (hD : va_D A [(zA gw ga0 gn0 g0)]) (hS : va_S A s.heap H locs) (hl : lv_has ls 5 [(0, .ref ga0), (2, .int (zi x2)), (3, .int (zi x3)), (4, .int (zi x4))]) (k0 : u.1 = 0 → ∀ (H : Heap) (locs : List Loc) (ls : Array Slot), va_P gw.1 vwCl [(zA gw ga0 gn0 (u.2.2))] H → va_D A [(zA gw ga0 gn0 (u.2.2))] → va_S A s.heap H locs → lv_has ls 5 [(0, .ref ga0), (2, .int (zi x2)), (3, .int (zi x3)), (4, .int (zi (u.2.1)))] → W p l e rmX8_fillRange s m args below meth c H locs 0 0 Q (F0 m 3 ls [])) (k1 : u.1 = 1 → ∀ (H : Heap) (locs : List Loc) (ls : Array Slot), va_P gw.1 vwCl [(zA gw ga0 gn0 (u.2.2))] H → va_D A [(zA gw ga0 gn0 (u.2.2))] → va_S A s.heap H locs → lv_has ls 5 [] → W p l e rmX8_fillRange s m args below meth c H locs 0 0 Q (F0 m 20 ls [])) : W p l e rmX8_fillRange s m args below meth c H locs 0 0 Q (F0 m 3 ls []) := by
  obtain ⟨hx, hb, hml, hr, hown, hts, hlk, hK, hA, hnm⟩ := id F
  have hown : s.vm.findClass RX8 = some m.cls := hown
  unfold m_X8_fillRange_3 at hm
  refine lv_iload hx hb dX8_fillRange_3 (lv_at hl 3 rfl) ?_
  refine lv_iload_n hx hb dX8_fillRange_5 rfl (lv_at hl 1 rfl) ?_
  obtain ⟨g_6, hm⟩ := gd_e hm
  obtain ⟨g_6_v2, hm⟩ := gd_e hm
  refine z_icmp_ge (tgt := 20) hx hb g_6 g_6_v2 dX8_fillRange_6 (by decide) (fun c_6 => ?_) (fun c_6 => ?_)
  · have hm := if_p hm c_6
    cases hm
    exact k1 rfl _ _ _ hP hD hS (lv_sub hl [] rfl)
  · have hm := if_n hm c_6
    refine lv_aload_n hx hb dX8_fillRange_9 rfl (lv_at hl 0 rfl) ?_
    refine lv_iload hx hb dX8_fillRange_10 (lv_at hl 3 rfl) ?_
    refine lv_iload_n hx hb dX8_fillRange_12 rfl (lv_at hl 2 rfl) ?_
    obtain ⟨g_13, hm⟩ := gd_e hm
    obtain ⟨g0_13, e_g0_13, hm⟩ := vl_e hm
    refine z_iast hx hb hK hP hD hS 0 rfl g_13 (Nat.le_of_lt hg0) e_g0_13 dX8_fillRange_13 (fun H locs hP hD hS => ?_)
    have hP : va_P gw.1 vwCl [(zA gw ga0 gn0 g0_13)] H := hP
    have hD : va_D A [(zA gw ga0 gn0 g0_13)] := hD
    obtain ⟨x4_14, e_x4_14, hm⟩ := vl_e hm
    refine lv_iinc (v := zi x4_14) (lv' := [(4, .int (zi x4_14)), (0, .ref ga0), (2, .int (zi x2)), (3, .int (zi x3))]) hx hb dX8_fillRange_14 hl (k := 3) rfl (by rw [e_x4_14]; exact zi_add _ _) (by decide) rfl (fun ls hl => ?_)
    refine lv_goto (tgt := 3) hx hb dX8_fillRange_17 (by decide) ?_
    cases hm
    exact k0 rfl _ _ _ hP hD hS (lv_sub hl [1, 2, 3, 0] rfl)
set_option maxHeartbeats 4000000 in
theorem l_X8_fillRange_3 (F : zF p s m args meth c A gw cX8_fillRange 5 none wsX8_fillRange yX8_fillRange) (h : Nat → Nat) (ga0 : Nat) (gn0 : Nat) (hg0 : gn0 < 2147483648)  (x2 : Int) (x3 : Int) (n : Nat) (a : Int × (Nat → Int)) (u : Nat × (Int × (Nat → Int))) (hm : zloop (fun a => m_X8_fillRange_3 x2 x3 a.1 a.2 gn0) n a = some u) (k1 : u.1 = 1 → ∀ (H : Heap) (locs : List Loc) (ls : Array Slot), va_P gw.1 vwCl [(zA gw ga0 gn0 (u.2.2))] H → va_D A [(zA gw ga0 gn0 (u.2.2))] → va_S A s.heap H locs → lv_has ls 5 [] → W p l e rmX8_fillRange s m args below meth c H locs 0 0 Q (F0 m 20 ls [])) (H : Heap) (locs : List Loc) (ls : Array Slot) (hP : va_P gw.1 vwCl [(zA gw ga0 gn0 (a.2))] H) (hD : va_D A [(zA gw ga0 gn0 (a.2))]) (hS : va_S A s.heap H locs) (hl : lv_has ls 5 [(0, .ref ga0), (2, .int (zi x2)), (3, .int (zi x3)), (4, .int (zi (a.1)))]) : W p l e rmX8_fillRange s m args below meth c H locs 0 0 Q (F0 m 3 ls []) := by
  refine zloop_ind (P := fun a => ∀ (H : Heap) (locs : List Loc) (ls : Array Slot), va_P gw.1 vwCl [(zA gw ga0 gn0 (a.2))] H → va_D A [(zA gw ga0 gn0 (a.2))] → va_S A s.heap H locs → lv_has ls 5 [(0, .ref ga0), (2, .int (zi x2)), (3, .int (zi x3)), (4, .int (zi (a.1)))] → W p l e rmX8_fillRange s m args below meth c H locs 0 0 Q (F0 m 3 ls [])) (K := fun w => (w.1 = 1 → ∀ (H : Heap) (locs : List Loc) (ls : Array Slot), va_P gw.1 vwCl [(zA gw ga0 gn0 (w.2.2))] H → va_D A [(zA gw ga0 gn0 (w.2.2))] → va_S A s.heap H locs → lv_has ls 5 [] → W p l e rmX8_fillRange s m args below meth c H locs 0 0 Q (F0 m 20 ls []))) (fun a w hb h0 hk H locs ls hP hD hS hl => ?_) n a u hm (fun _ => k1) H locs ls hP hD hS hl
  exact w_X8_fillRange_3 F h ga0 gn0 hg0  x2 x3 a.1 a.2 w hb H locs ls hP hD hS hl (fun z H locs ls hP hD hS hl => h0 z H locs ls hP hD hS hl) (fun z => (hk (by rw [z]; decide)) z)
def m_X8_fillRange (x1 : Int) (x2 : Int) (x3 : Int) (g0 : Nat → Int) (gn0 : Nat) : Option ((Nat → Int)) :=
  (zloop (fun a => m_X8_fillRange_3 x2 x3 a.1 a.2 gn0) FU (x1, g0)).bind fun (t_3, x4_3, g0_3) =>
  some g0_3
set_option maxHeartbeats 4000000 in
set_option maxRecDepth 100000 in
theorem w_X8_fillRange (F : zF p s m args meth c A gw cX8_fillRange 5 none wsX8_fillRange yX8_fillRange) (h : Nat → Nat) (ga0 : Nat) (gn0 : Nat) (hg0 : gn0 < 2147483648) (x1 : Int) (x2 : Int) (x3 : Int) (g0 : Nat → Int) (u : (Nat → Int)) (hm : m_X8_fillRange x1 x2 x3 g0 gn0 = some u) (H : Heap) (locs : List Loc) (ls : Array Slot) (hP : va_P gw.1 vwCl [(zA gw ga0 gn0 g0)] H) (hD : va_D A [(zA gw ga0 gn0 g0)]) (hS : va_S A s.heap H locs) (hl : lv_has ls 5 [(0, .ref ga0), (1, .int (zi x1)), (2, .int (zi x2)), (3, .int (zi x3))]) : W p l e rmX8_fillRange s m args below meth c H locs 0 0 (MQ below (zQ gw none [(zA gw ga0 gn0 u)] A) args s 0 0 A) (F0 m 0 ls []) := by
  obtain ⟨hx, hb, hml, hr, hown, hts, hlk, hK, hA, hnm⟩ := id F
  have hown : s.vm.findClass RX8 = some m.cls := hown
  unfold m_X8_fillRange at hm
  refine lv_iload_n hx hb dX8_fillRange_0 rfl (lv_at hl 1 rfl) ?_
  refine lv_istore (lv' := [(4, .int (zi x1)), (0, .ref ga0), (1, .int (zi x1)), (2, .int (zi x2)), (3, .int (zi x3))]) hx hb dX8_fillRange_1 hl (by decide) rfl (fun ls hl => ?_)
  obtain ⟨u_3, hu_3, hm⟩ := bd_e hm
  obtain ⟨t_3, x4_3, g0_3⟩ := u_3
  refine l_X8_fillRange_3 F h ga0 gn0 hg0  x2 x3 FU (x1, g0) _ hu_3 (fun z_3 H locs ls hP hD hS hl => ?_) _ _ _ hP hD hS (lv_sub hl [1, 3, 4, 0] rfl)
  have hP : va_P gw.1 vwCl [(zA gw ga0 gn0 g0_3)] H := hP
  have hD : va_D A [(zA gw ga0 gn0 g0_3)] := hD
  have hl : lv_has ls 5 [] := hl
  cases hm
  exact z_vret hx hb hr hlk hP hD hS dX8_fillRange_20
theorem c_X8_fillRange (l : Launch) (gw : zG) (h : Nat → Nat) (ga0 : Nat) (gn0 : Nat) (hg0 : gn0 < 2147483648) (x1 : Int) (x2 : Int) (x3 : Int) (g0 : Nat → Int) (u : (Nat → Int)) (hm : m_X8_fillRange x1 x2 x3 g0 gn0 = some u) (sz : Nat) : Met l yX8_fillRange wsX8_fillRange rmX8_fillRange (va_Pc [.ref ga0, .int (zi x1), .int (zi x2), .int (zi x3)] (zPre gw [(zA gw ga0 gn0 g0)] sz)) (zQ gw none [(zA gw ga0 gn0 u)] (va_A [(zA gw ga0 gn0 g0)] sz)) 0 0 (va_A [(zA gw ga0 gn0 g0)] sz) :=
  z_met (by decide) rfl (Nat.le_of_ble_eq_true rfl) rfl (fun p e s m args below meth c A F hsz ls hl hP hD => w_X8_fillRange F h ga0 gn0 hg0 x1 x2 x3 g0 u hm s.heap [] ls hP hD va_S.rf hl)
abbrev rmX4_copyFrom : Room := { frames := 1, cells := 0, slots := 0, locals := 26 }
theorem iX4_copyFrom_X4 : ∀ w ∈ wsX40, w ∈ wsX4_copyFrom := by decide +kernel
def m_X4_copyFrom (s_length : Int) (s_letters : Nat → Int) (s_breaks : Nat → Int) (s_fixed : Nat → Int) (w_length : Int) (w_letters : Nat → Int) (w_breaks : Nat → Int) (w_fixed : Nat → Int) : Option (Int × (Nat → Int) × (Nat → Int) × (Nat → Int)) :=
  vl (zcp w_letters s_letters (Int.toNat 0) (Int.toNat 0) (Int.toNat 36)) fun s_letters_20 =>
  vl (zcp w_breaks s_breaks (Int.toNat 0) (Int.toNat 0) (Int.toNat 36)) fun s_breaks_35 =>
  vl (zcp w_fixed s_fixed (Int.toNat 0) (Int.toNat 0) (Int.toNat 36)) fun s_fixed_50 =>
  some (w_length, s_letters_20, s_breaks_35, s_fixed_50)
set_option maxHeartbeats 4000000 in
set_option maxRecDepth 100000 in
theorem w_X4_copyFrom (F : zF p s m args meth c A gw cX4_copyFrom 2 none wsX4_copyFrom yX4_copyFrom) (h : Nat → Nat) (s_length : Int) (s_letters : Nat → Int) (s_breaks : Nat → Int) (s_fixed : Nat → Int) (w_length : Int) (w_letters : Nat → Int) (w_breaks : Nat → Int) (w_fixed : Nat → Int) (u : Int × (Nat → Int) × (Nat → Int) × (Nat → Int)) (hm : m_X4_copyFrom s_length s_letters s_breaks s_fixed w_length w_letters w_breaks w_fixed = some u) (H : Heap) (locs : List Loc) (ls : Array Slot) (hP : va_P gw.1 vwCl [(zOX4 h s_length), (zOS2 h w_length), (zA gw (h 501) 36 s_letters), (zA gw (h 502) 36 s_breaks), (zA gw (h 503) 36 s_fixed), (zA gw (h 11) 36 w_letters), (zA gw (h 12) 36 w_breaks), (zA gw (h 13) 36 w_fixed)] H) (hD : va_D A [(zOX4 h s_length), (zOS2 h w_length), (zA gw (h 501) 36 s_letters), (zA gw (h 502) 36 s_breaks), (zA gw (h 503) 36 s_fixed), (zA gw (h 11) 36 w_letters), (zA gw (h 12) 36 w_breaks), (zA gw (h 13) 36 w_fixed)]) (hS : va_S A s.heap H locs) (hl : lv_has ls 2 [(0, .ref (h 4)), (1, .ref (h 10))]) : W p l e rmX4_copyFrom s m args below meth c H locs 0 0 (MQ below (zQ gw none [(zOX4 h (u.1)), (zOS2 h w_length), (zA gw (h 501) 36 (u.2.1)), (zA gw (h 502) 36 (u.2.2.1)), (zA gw (h 503) 36 (u.2.2.2)), (zA gw (h 11) 36 w_letters), (zA gw (h 12) 36 w_breaks), (zA gw (h 13) 36 w_fixed)] A) args s 0 0 A) (F0 m 0 ls []) := by
  obtain ⟨hx, hb, hml, hr, hown, hts, hlk, hK, hA, hnm⟩ := id F
  have hown : s.vm.findClass RX4 = some m.cls := hown
  unfold m_X4_copyFrom at hm
  refine lv_aload_n hx hb dX4_copyFrom_0 rfl (lv_at hl 0 rfl) ?_
  refine lv_aload_n hx hb dX4_copyFrom_1 rfl (lv_at hl 1 rfl) ?_
  refine va_get (D := gw.1) (ci := 4) (v := .int (zi w_length)) (C := RX4) (T := TX4) (N := 4) hx hb hts iX4_copyFrom_X4 hown hK.1 hP 1 rfl rfl 0 (by decide) (hts (.fieldLink RX4 21 "SoundLine$Sheet" "length" "I") (by decide +kernel)) (fun _ h9 => h9) rfl dX4_copyFrom_2 ?_
  refine va_put (D := gw.1) (ci := 4) (v := .int (zi w_length)) (ty := .int) (C := RX4) (T := TX4) (N := 4) hx hb hts iX4_copyFrom_X4 tyX4 tyX4_ok nmX4 hown hK.1 hP hD hS 0 rfl rfl 0 (by decide) (hts (.fieldLink RX4 21 "SoundLine$Sheet" "length" "I") (by decide +kernel)) (fun _ h9 => h9) rfl (by decide +kernel) rfl rfl (Nat.le_of_ble_eq_true rfl) dX4_copyFrom_5 (fun H locs hP hD hS => ?_)
  have hP : va_P gw.1 vwCl [(zOX4 h w_length), (zOS2 h w_length), (zA gw (h 501) 36 s_letters), (zA gw (h 502) 36 s_breaks), (zA gw (h 503) 36 s_fixed), (zA gw (h 11) 36 w_letters), (zA gw (h 12) 36 w_breaks), (zA gw (h 13) 36 w_fixed)] H := hP
  have hD : va_D A [(zOX4 h w_length), (zOS2 h w_length), (zA gw (h 501) 36 s_letters), (zA gw (h 502) 36 s_breaks), (zA gw (h 503) 36 s_fixed), (zA gw (h 11) 36 w_letters), (zA gw (h 12) 36 w_breaks), (zA gw (h 13) 36 w_fixed)] := hD
  refine lv_aload_n hx hb dX4_copyFrom_8 rfl (lv_at hl 1 rfl) ?_
  refine va_get (D := gw.1) (ci := 4) (v := .ref (h 11)) (C := RX4) (T := TX4) (N := 4) hx hb hts iX4_copyFrom_X4 hown hK.1 hP 1 rfl rfl 1 (by decide) (hts (.fieldLink RX4 9 "SoundLine$Sheet" "letters" "[I") (by decide +kernel)) (fun _ h9 => h9) rfl dX4_copyFrom_9 ?_
  refine lv_iconst (v := zi 0) hx hb dX4_copyFrom_12 rfl ?_
  refine lv_aload_n hx hb dX4_copyFrom_13 rfl (lv_at hl 0 rfl) ?_
  refine va_get (D := gw.1) (ci := 4) (v := .ref (h 501)) (C := RX4) (T := TX4) (N := 4) hx hb hts iX4_copyFrom_X4 hown hK.1 hP 0 rfl rfl 1 (by decide) (hts (.fieldLink RX4 9 "SoundLine$Sheet" "letters" "[I") (by decide +kernel)) (fun _ h9 => h9) rfl dX4_copyFrom_14 ?_
  refine lv_iconst (v := zi 0) hx hb dX4_copyFrom_17 rfl ?_
  refine lv_bipush (v := zi 36) hx hb dX4_copyFrom_18 (by decide) ?_
  obtain ⟨s_letters_20, e_s_letters_20, hm⟩ := vl_e hm
  refine z_copy hx hb (hml.trans hl.1.symm) hown (hts (.methodLink RX4 25 arraycopyName) (by decide +kernel)) (hts (.native arraycopyName) (by decide +kernel)) (hts (.static arraycopyName) (by decide +kernel)) (hts (.initialized "java/lang/System") (by decide +kernel)) hK hP hD hS 5 2 rfl rfl (by decide) (by decide) (by decide) e_s_letters_20 (Nat.le_of_ble_eq_true rfl) (Nat.le_of_ble_eq_true rfl) dX4_copyFrom_20 (fun H locs hP hD hS => ?_)
  have hP : va_P gw.1 vwCl [(zOX4 h w_length), (zOS2 h w_length), (zA gw (h 501) 36 s_letters_20), (zA gw (h 502) 36 s_breaks), (zA gw (h 503) 36 s_fixed), (zA gw (h 11) 36 w_letters), (zA gw (h 12) 36 w_breaks), (zA gw (h 13) 36 w_fixed)] H := hP
  have hD : va_D A [(zOX4 h w_length), (zOS2 h w_length), (zA gw (h 501) 36 s_letters_20), (zA gw (h 502) 36 s_breaks), (zA gw (h 503) 36 s_fixed), (zA gw (h 11) 36 w_letters), (zA gw (h 12) 36 w_breaks), (zA gw (h 13) 36 w_fixed)] := hD
  refine lv_aload_n hx hb dX4_copyFrom_23 rfl (lv_at hl 1 rfl) ?_
  refine va_get (D := gw.1) (ci := 4) (v := .ref (h 12)) (C := RX4) (T := TX4) (N := 4) hx hb hts iX4_copyFrom_X4 hown hK.1 hP 1 rfl rfl 2 (by decide) (hts (.fieldLink RX4 15 "SoundLine$Sheet" "breaks" "[I") (by decide +kernel)) (fun _ h9 => h9) rfl dX4_copyFrom_24 ?_
  refine lv_iconst (v := zi 0) hx hb dX4_copyFrom_27 rfl ?_
  refine lv_aload_n hx hb dX4_copyFrom_28 rfl (lv_at hl 0 rfl) ?_
  refine va_get (D := gw.1) (ci := 4) (v := .ref (h 502)) (C := RX4) (T := TX4) (N := 4) hx hb hts iX4_copyFrom_X4 hown hK.1 hP 0 rfl rfl 2 (by decide) (hts (.fieldLink RX4 15 "SoundLine$Sheet" "breaks" "[I") (by decide +kernel)) (fun _ h9 => h9) rfl dX4_copyFrom_29 ?_
  refine lv_iconst (v := zi 0) hx hb dX4_copyFrom_32 rfl ?_
  refine lv_bipush (v := zi 36) hx hb dX4_copyFrom_33 (by decide) ?_
  obtain ⟨s_breaks_35, e_s_breaks_35, hm⟩ := vl_e hm
  refine z_copy hx hb (hml.trans hl.1.symm) hown (hts (.methodLink RX4 25 arraycopyName) (by decide +kernel)) (hts (.native arraycopyName) (by decide +kernel)) (hts (.static arraycopyName) (by decide +kernel)) (hts (.initialized "java/lang/System") (by decide +kernel)) hK hP hD hS 6 3 rfl rfl (by decide) (by decide) (by decide) e_s_breaks_35 (Nat.le_of_ble_eq_true rfl) (Nat.le_of_ble_eq_true rfl) dX4_copyFrom_35 (fun H locs hP hD hS => ?_)
  have hP : va_P gw.1 vwCl [(zOX4 h w_length), (zOS2 h w_length), (zA gw (h 501) 36 s_letters_20), (zA gw (h 502) 36 s_breaks_35), (zA gw (h 503) 36 s_fixed), (zA gw (h 11) 36 w_letters), (zA gw (h 12) 36 w_breaks), (zA gw (h 13) 36 w_fixed)] H := hP
  have hD : va_D A [(zOX4 h w_length), (zOS2 h w_length), (zA gw (h 501) 36 s_letters_20), (zA gw (h 502) 36 s_breaks_35), (zA gw (h 503) 36 s_fixed), (zA gw (h 11) 36 w_letters), (zA gw (h 12) 36 w_breaks), (zA gw (h 13) 36 w_fixed)] := hD
  refine lv_aload_n hx hb dX4_copyFrom_38 rfl (lv_at hl 1 rfl) ?_
  refine va_get (D := gw.1) (ci := 4) (v := .ref (h 13)) (C := RX4) (T := TX4) (N := 4) hx hb hts iX4_copyFrom_X4 hown hK.1 hP 1 rfl rfl 3 (by decide) (hts (.fieldLink RX4 18 "SoundLine$Sheet" "fixed" "[I") (by decide +kernel)) (fun _ h9 => h9) rfl dX4_copyFrom_39 ?_
  refine lv_iconst (v := zi 0) hx hb dX4_copyFrom_42 rfl ?_
  refine lv_aload_n hx hb dX4_copyFrom_43 rfl (lv_at hl 0 rfl) ?_
  refine va_get (D := gw.1) (ci := 4) (v := .ref (h 503)) (C := RX4) (T := TX4) (N := 4) hx hb hts iX4_copyFrom_X4 hown hK.1 hP 0 rfl rfl 3 (by decide) (hts (.fieldLink RX4 18 "SoundLine$Sheet" "fixed" "[I") (by decide +kernel)) (fun _ h9 => h9) rfl dX4_copyFrom_44 ?_
  refine lv_iconst (v := zi 0) hx hb dX4_copyFrom_47 rfl ?_
  refine lv_bipush (v := zi 36) hx hb dX4_copyFrom_48 (by decide) ?_
  obtain ⟨s_fixed_50, e_s_fixed_50, hm⟩ := vl_e hm
  refine z_copy hx hb (hml.trans hl.1.symm) hown (hts (.methodLink RX4 25 arraycopyName) (by decide +kernel)) (hts (.native arraycopyName) (by decide +kernel)) (hts (.static arraycopyName) (by decide +kernel)) (hts (.initialized "java/lang/System") (by decide +kernel)) hK hP hD hS 7 4 rfl rfl (by decide) (by decide) (by decide) e_s_fixed_50 (Nat.le_of_ble_eq_true rfl) (Nat.le_of_ble_eq_true rfl) dX4_copyFrom_50 (fun H locs hP hD hS => ?_)
  have hP : va_P gw.1 vwCl [(zOX4 h w_length), (zOS2 h w_length), (zA gw (h 501) 36 s_letters_20), (zA gw (h 502) 36 s_breaks_35), (zA gw (h 503) 36 s_fixed_50), (zA gw (h 11) 36 w_letters), (zA gw (h 12) 36 w_breaks), (zA gw (h 13) 36 w_fixed)] H := hP
  have hD : va_D A [(zOX4 h w_length), (zOS2 h w_length), (zA gw (h 501) 36 s_letters_20), (zA gw (h 502) 36 s_breaks_35), (zA gw (h 503) 36 s_fixed_50), (zA gw (h 11) 36 w_letters), (zA gw (h 12) 36 w_breaks), (zA gw (h 13) 36 w_fixed)] := hD
  cases hm
  exact z_vret hx hb hr hlk hP hD hS dX4_copyFrom_53
theorem c_X4_copyFrom (l : Launch) (gw : zG) (h : Nat → Nat) (s_length : Int) (s_letters : Nat → Int) (s_breaks : Nat → Int) (s_fixed : Nat → Int) (w_length : Int) (w_letters : Nat → Int) (w_breaks : Nat → Int) (w_fixed : Nat → Int) (u : Int × (Nat → Int) × (Nat → Int) × (Nat → Int)) (hm : m_X4_copyFrom s_length s_letters s_breaks s_fixed w_length w_letters w_breaks w_fixed = some u) (sz : Nat) : Met l yX4_copyFrom wsX4_copyFrom rmX4_copyFrom (va_Pc [.ref (h 4), .ref (h 10)] (zPre gw [(zOX4 h s_length), (zOS2 h w_length), (zA gw (h 501) 36 s_letters), (zA gw (h 502) 36 s_breaks), (zA gw (h 503) 36 s_fixed), (zA gw (h 11) 36 w_letters), (zA gw (h 12) 36 w_breaks), (zA gw (h 13) 36 w_fixed)] sz)) (zQ gw none [(zOX4 h (u.1)), (zOS2 h w_length), (zA gw (h 501) 36 (u.2.1)), (zA gw (h 502) 36 (u.2.2.1)), (zA gw (h 503) 36 (u.2.2.2)), (zA gw (h 11) 36 w_letters), (zA gw (h 12) 36 w_breaks), (zA gw (h 13) 36 w_fixed)] (va_A [(zOX4 h s_length), (zOS2 h w_length), (zA gw (h 501) 36 s_letters), (zA gw (h 502) 36 s_breaks), (zA gw (h 503) 36 s_fixed), (zA gw (h 11) 36 w_letters), (zA gw (h 12) 36 w_breaks), (zA gw (h 13) 36 w_fixed)] sz)) 0 0 (va_A [(zOX4 h s_length), (zOS2 h w_length), (zA gw (h 501) 36 s_letters), (zA gw (h 502) 36 s_breaks), (zA gw (h 503) 36 s_fixed), (zA gw (h 11) 36 w_letters), (zA gw (h 12) 36 w_breaks), (zA gw (h 13) 36 w_fixed)] sz) :=
  z_met (by decide) rfl (Nat.le_of_ble_eq_true rfl) rfl (fun p e s m args below meth c A F hsz ls hl hP hD => w_X4_copyFrom F h s_length s_letters s_breaks s_fixed w_length w_letters w_breaks w_fixed u hm s.heap [] ls hP hD va_S.rf hl)
abbrev rmX4_fixedEndsAt : Room := { frames := 0, cells := 0, slots := 0, locals := 0 }
theorem iX4_fixedEndsAt_X4 : ∀ w ∈ wsX40, w ∈ wsX4_fixedEndsAt := by decide +kernel
def m_X4_fixedEndsAt_2 (x1 : Int) (x2 : Int) (s_fixed : Nat → Int) : Option (Nat × (Int)) :=
  gd (inI x2) <|
  gd (inI x1) <|
  if x1 ≤ x2 then
    some (1, x2)
  else
    gd (0 ≤ x2 ∧ x2 < 36) <|
    gd (inI (s_fixed (Int.toNat x2))) <|
    gd (inI ((s_fixed (Int.toNat x2)) / 1024)) <|
    if ((s_fixed (Int.toNat x2)) / 1024) = x1 then
      some (2, x2)
    else
      vl (x2 + 1) fun x2_22 =>
      some (0, x2_22)
set_option maxHeartbeats 4000000 in
set_option maxRecDepth 100000 in
theorem w_X4_fixedEndsAt_2 (F : zF p s m args meth c A gw cX4_fixedEndsAt 3 (some .boolean) wsX4_fixedEndsAt yX4_fixedEndsAt) (h : Nat → Nat) (s_length : Int)  (x1 : Int) (x2 : Int) (s_fixed : Nat → Int) (u : Nat × (Int)) (hm : m_X4_fixedEndsAt_2 x1 x2 s_fixed = some u) (H : Heap) (locs : List Loc) (ls : Array Slot) (hP : va_P gw.1 vwCl [(zOX4 h s_length), (zA gw (h 503) 36 s_fixed)] H) (hD : va_D A [(zOX4 h s_length), (zA gw (h 503) 36 s_fixed)]) (hS : va_S A s.heap H locs) (hl : lv_has ls 3 [(0, .ref (h 4)), (1, .int (zi x1)), (2, .int (zi x2))]) (k0 : u.1 = 0 → ∀ (H : Heap) (locs : List Loc) (ls : Array Slot), va_P gw.1 vwCl [(zOX4 h s_length), (zA gw (h 503) 36 s_fixed)] H → va_D A [(zOX4 h s_length), (zA gw (h 503) 36 s_fixed)] → va_S A s.heap H locs → lv_has ls 3 [(0, .ref (h 4)), (1, .int (zi x1)), (2, .int (zi (u.2)))] → W p l e rmX4_fixedEndsAt s m args below meth c H locs 0 0 Q (F0 m 2 ls [])) (k1 : u.1 = 1 → ∀ (H : Heap) (locs : List Loc) (ls : Array Slot), va_P gw.1 vwCl [(zOX4 h s_length), (zA gw (h 503) 36 s_fixed)] H → va_D A [(zOX4 h s_length), (zA gw (h 503) 36 s_fixed)] → va_S A s.heap H locs → lv_has ls 3 [] → W p l e rmX4_fixedEndsAt s m args below meth c H locs 0 0 Q (F0 m 28 ls [])) (k2 : u.1 = 2 → ∀ (H : Heap) (locs : List Loc) (ls : Array Slot), va_P gw.1 vwCl [(zOX4 h s_length), (zA gw (h 503) 36 s_fixed)] H → va_D A [(zOX4 h s_length), (zA gw (h 503) 36 s_fixed)] → va_S A s.heap H locs → lv_has ls 3 [] → W p l e rmX4_fixedEndsAt s m args below meth c H locs 0 0 Q (F0 m 20 ls [])) : W p l e rmX4_fixedEndsAt s m args below meth c H locs 0 0 Q (F0 m 2 ls []) := by
  obtain ⟨hx, hb, hml, hr, hown, hts, hlk, hK, hA, hnm⟩ := id F
  have hown : s.vm.findClass RX4 = some m.cls := hown
  unfold m_X4_fixedEndsAt_2 at hm
  refine lv_iload_n hx hb dX4_fixedEndsAt_2 rfl (lv_at hl 2 rfl) ?_
  refine lv_iload_n hx hb dX4_fixedEndsAt_3 rfl (lv_at hl 1 rfl) ?_
  obtain ⟨g_4, hm⟩ := gd_e hm
  obtain ⟨g_4_v2, hm⟩ := gd_e hm
  refine z_icmp_ge (tgt := 28) hx hb g_4 g_4_v2 dX4_fixedEndsAt_4 (by decide) (fun c_4 => ?_) (fun c_4 => ?_)
  · have hm := if_p hm c_4
    cases hm
    exact k1 rfl _ _ _ hP hD hS (lv_sub hl [] rfl)
  · have hm := if_n hm c_4
    refine lv_aload_n hx hb dX4_fixedEndsAt_7 rfl (lv_at hl 0 rfl) ?_
    refine va_get (D := gw.1) (ci := 4) (v := .ref (h 503)) (C := RX4) (T := TX4) (N := 4) hx hb hts iX4_fixedEndsAt_X4 hown hK.1 hP 0 rfl rfl 3 (by decide) (hts (.fieldLink RX4 18 "SoundLine$Sheet" "fixed" "[I") (by decide +kernel)) (fun _ h9 => h9) rfl dX4_fixedEndsAt_8 ?_
    refine lv_iload_n hx hb dX4_fixedEndsAt_11 rfl (lv_at hl 2 rfl) ?_
    obtain ⟨g_12, hm⟩ := gd_e hm
    refine z_iald hx hb hK hP 1 rfl g_12 (by decide) dX4_fixedEndsAt_12 ?_
    refine lv_bipush (v := zi 10) hx hb dX4_fixedEndsAt_13 (by decide) ?_
    obtain ⟨g_15, hm⟩ := gd_e hm
    refine z_ishrk (d := 1024) hx hb g_15 (by decide) (by decide) dX4_fixedEndsAt_15 ?_
    refine lv_iload_n hx hb dX4_fixedEndsAt_16 rfl (lv_at hl 1 rfl) ?_
    obtain ⟨g_17, hm⟩ := gd_e hm
    refine z_icmp_ne (tgt := 22) hx hb g_17 g_4_v2 dX4_fixedEndsAt_17 (by decide) (fun c_17 => ?_) (fun c_17 => ?_)
    · have hm := if_n hm c_17
      obtain ⟨x2_22, e_x2_22, hm⟩ := vl_e hm
      refine lv_iinc (v := zi x2_22) (lv' := [(2, .int (zi x2_22)), (0, .ref (h 4)), (1, .int (zi x1))]) hx hb dX4_fixedEndsAt_22 hl (k := 2) rfl (by rw [e_x2_22]; exact zi_add _ _) (by decide) rfl (fun ls hl => ?_)
      refine lv_goto (tgt := 2) hx hb dX4_fixedEndsAt_25 (by decide) ?_
      cases hm
      exact k0 rfl _ _ _ hP hD hS (lv_sub hl [1, 2, 0] rfl)
    · have hm := if_p hm c_17
      cases hm
      exact k2 rfl _ _ _ hP hD hS (lv_sub hl [] rfl)
set_option maxHeartbeats 4000000 in
theorem l_X4_fixedEndsAt_2 (F : zF p s m args meth c A gw cX4_fixedEndsAt 3 (some .boolean) wsX4_fixedEndsAt yX4_fixedEndsAt) (h : Nat → Nat) (s_length : Int)  (x1 : Int) (s_fixed : Nat → Int) (n : Nat) (a : Int) (u : Nat × (Int)) (hm : zloop (fun a => m_X4_fixedEndsAt_2 x1 a s_fixed) n a = some u) (k1 : u.1 = 1 → ∀ (H : Heap) (locs : List Loc) (ls : Array Slot), va_P gw.1 vwCl [(zOX4 h s_length), (zA gw (h 503) 36 s_fixed)] H → va_D A [(zOX4 h s_length), (zA gw (h 503) 36 s_fixed)] → va_S A s.heap H locs → lv_has ls 3 [] → W p l e rmX4_fixedEndsAt s m args below meth c H locs 0 0 Q (F0 m 28 ls [])) (k2 : u.1 = 2 → ∀ (H : Heap) (locs : List Loc) (ls : Array Slot), va_P gw.1 vwCl [(zOX4 h s_length), (zA gw (h 503) 36 s_fixed)] H → va_D A [(zOX4 h s_length), (zA gw (h 503) 36 s_fixed)] → va_S A s.heap H locs → lv_has ls 3 [] → W p l e rmX4_fixedEndsAt s m args below meth c H locs 0 0 Q (F0 m 20 ls [])) (H : Heap) (locs : List Loc) (ls : Array Slot) (hP : va_P gw.1 vwCl [(zOX4 h s_length), (zA gw (h 503) 36 s_fixed)] H) (hD : va_D A [(zOX4 h s_length), (zA gw (h 503) 36 s_fixed)]) (hS : va_S A s.heap H locs) (hl : lv_has ls 3 [(0, .ref (h 4)), (1, .int (zi x1)), (2, .int (zi a))]) : W p l e rmX4_fixedEndsAt s m args below meth c H locs 0 0 Q (F0 m 2 ls []) := by
  refine zloop_ind (P := fun a => ∀ (H : Heap) (locs : List Loc) (ls : Array Slot), va_P gw.1 vwCl [(zOX4 h s_length), (zA gw (h 503) 36 s_fixed)] H → va_D A [(zOX4 h s_length), (zA gw (h 503) 36 s_fixed)] → va_S A s.heap H locs → lv_has ls 3 [(0, .ref (h 4)), (1, .int (zi x1)), (2, .int (zi a))] → W p l e rmX4_fixedEndsAt s m args below meth c H locs 0 0 Q (F0 m 2 ls [])) (K := fun w => (w.1 = 1 → ∀ (H : Heap) (locs : List Loc) (ls : Array Slot), va_P gw.1 vwCl [(zOX4 h s_length), (zA gw (h 503) 36 s_fixed)] H → va_D A [(zOX4 h s_length), (zA gw (h 503) 36 s_fixed)] → va_S A s.heap H locs → lv_has ls 3 [] → W p l e rmX4_fixedEndsAt s m args below meth c H locs 0 0 Q (F0 m 28 ls [])) ∧ (w.1 = 2 → ∀ (H : Heap) (locs : List Loc) (ls : Array Slot), va_P gw.1 vwCl [(zOX4 h s_length), (zA gw (h 503) 36 s_fixed)] H → va_D A [(zOX4 h s_length), (zA gw (h 503) 36 s_fixed)] → va_S A s.heap H locs → lv_has ls 3 [] → W p l e rmX4_fixedEndsAt s m args below meth c H locs 0 0 Q (F0 m 20 ls []))) (fun a w hb h0 hk H locs ls hP hD hS hl => ?_) n a u hm (fun _ => ⟨k1, k2⟩) H locs ls hP hD hS hl
  exact w_X4_fixedEndsAt_2 F h s_length  x1 a s_fixed w hb H locs ls hP hD hS hl (fun z H locs ls hP hD hS hl => h0 z H locs ls hP hD hS hl) (fun z => (hk (by rw [z]; decide)).1 z) (fun z => (hk (by rw [z]; decide)).2 z)
def m_X4_fixedEndsAt (x1 : Int) (s_fixed : Nat → Int) : Option (Int) :=
  (zloop (fun a => m_X4_fixedEndsAt_2 x1 a s_fixed) FU 0).bind fun (t_2, x2_2) =>
  if t_2 = 1 then
    some 0
  else
    some 1
set_option maxHeartbeats 4000000 in
set_option maxRecDepth 100000 in
theorem w_X4_fixedEndsAt (F : zF p s m args meth c A gw cX4_fixedEndsAt 3 (some .boolean) wsX4_fixedEndsAt yX4_fixedEndsAt) (h : Nat → Nat) (s_length : Int) (x1 : Int) (s_fixed : Nat → Int) (u : Int) (hm : m_X4_fixedEndsAt x1 s_fixed = some u) (H : Heap) (locs : List Loc) (ls : Array Slot) (hP : va_P gw.1 vwCl [(zOX4 h s_length), (zA gw (h 503) 36 s_fixed)] H) (hD : va_D A [(zOX4 h s_length), (zA gw (h 503) 36 s_fixed)]) (hS : va_S A s.heap H locs) (hl : lv_has ls 3 [(0, .ref (h 4)), (1, .int (zi x1))]) : W p l e rmX4_fixedEndsAt s m args below meth c H locs 0 0 (MQ below (zQ gw (some (.int (zi u))) [(zOX4 h s_length), (zA gw (h 503) 36 s_fixed)] A) args s 0 0 A) (F0 m 0 ls []) := by
  obtain ⟨hx, hb, hml, hr, hown, hts, hlk, hK, hA, hnm⟩ := id F
  have hown : s.vm.findClass RX4 = some m.cls := hown
  unfold m_X4_fixedEndsAt at hm
  refine lv_iconst (v := zi 0) hx hb dX4_fixedEndsAt_0 rfl ?_
  refine lv_istore_n (lv' := [(2, .int (zi 0)), (0, .ref (h 4)), (1, .int (zi x1))]) hx hb dX4_fixedEndsAt_1 rfl hl (by decide) rfl (fun ls hl => ?_)
  obtain ⟨u_2, hu_2, hm⟩ := bd_e hm
  obtain ⟨t_2, x2_2⟩ := u_2
  refine l_X4_fixedEndsAt_2 F h s_length  x1 s_fixed FU 0 _ hu_2 (fun z_2 H locs ls hP hD hS hl => ?_) (fun z_2 H locs ls hP hD hS hl => ?_) _ _ _ hP hD hS (lv_sub hl [1, 2, 0] rfl)
  · have hP : va_P gw.1 vwCl [(zOX4 h s_length), (zA gw (h 503) 36 s_fixed)] H := hP
    have hD : va_D A [(zOX4 h s_length), (zA gw (h 503) 36 s_fixed)] := hD
    have hl : lv_has ls 3 [] := hl
    have z_2 : t_2 = 1 := z_2
    have hm := if_p hm z_2
    refine lv_iconst (v := zi 0) hx hb dX4_fixedEndsAt_28 rfl ?_
    cases hm
    exact z_zret hx hb hr hlk hP hD hS (Or.inl rfl) dX4_fixedEndsAt_29
  · have hP : va_P gw.1 vwCl [(zOX4 h s_length), (zA gw (h 503) 36 s_fixed)] H := hP
    have hD : va_D A [(zOX4 h s_length), (zA gw (h 503) 36 s_fixed)] := hD
    have hl : lv_has ls 3 [] := hl
    have z_2 : t_2 = 2 := z_2
    have hm := if_n hm (show ¬ t_2 = 1 by omega)
    refine lv_iconst (v := zi 1) hx hb dX4_fixedEndsAt_20 rfl ?_
    cases hm
    exact z_zret hx hb hr hlk hP hD hS (Or.inr rfl) dX4_fixedEndsAt_21
theorem c_X4_fixedEndsAt (l : Launch) (gw : zG) (h : Nat → Nat) (s_length : Int) (x1 : Int) (s_fixed : Nat → Int) (u : Int) (hm : m_X4_fixedEndsAt x1 s_fixed = some u) (sz : Nat) : Met l yX4_fixedEndsAt wsX4_fixedEndsAt rmX4_fixedEndsAt (va_Pc [.ref (h 4), .int (zi x1)] (zPre gw [(zOX4 h s_length), (zA gw (h 503) 36 s_fixed)] sz)) (zQ gw (some (.int (zi u))) [(zOX4 h s_length), (zA gw (h 503) 36 s_fixed)] (va_A [(zOX4 h s_length), (zA gw (h 503) 36 s_fixed)] sz)) 0 0 (va_A [(zOX4 h s_length), (zA gw (h 503) 36 s_fixed)] sz) :=
  z_met (by decide) rfl (Nat.le_of_ble_eq_true rfl) rfl (fun p e s m args below meth c A F hsz ls hl hP hD => w_X4_fixedEndsAt F h s_length x1 s_fixed u hm s.heap [] ls hP hD va_S.rf hl)
abbrev rmX4_append : Room := { frames := 1, cells := 0, slots := 0, locals := 22 }
theorem iX4_append_X4 : ∀ w ∈ wsX40, w ∈ wsX4_append := by decide +kernel
def m_X4_append_34 (t1 : Int) (t2 : Int) (s_length : Int) (s_letters : Nat → Int) (s_breaks : Nat → Int) (s_fixed : Nat → Int) : Option (Int × (Nat → Int) × (Nat → Int)) :=
  gd (0 ≤ t1 ∧ t1 < 36) <|
  vl (uz s_breaks (Int.toNat t1) t2) fun s_breaks_34 =>
  vl (s_length + 1) fun s_length_42 =>
  some (s_length_42, s_letters, s_breaks_34)
set_option maxHeartbeats 4000000 in
set_option maxRecDepth 100000 in
theorem w_X4_append_34 (F : zF p s m args meth c A gw cX4_append 2 none wsX4_append yX4_append) (h : Nat → Nat) (t1 : Int) (t2 : Int) (s_length : Int) (s_letters : Nat → Int) (s_breaks : Nat → Int) (s_fixed : Nat → Int) (u : Int × (Nat → Int) × (Nat → Int)) (hm : m_X4_append_34 t1 t2 s_length s_letters s_breaks s_fixed = some u) (H : Heap) (locs : List Loc) (ls : Array Slot) (hP : va_P gw.1 vwCl [(zOX4 h s_length), (zA gw (h 501) 36 s_letters), (zA gw (h 502) 36 s_breaks), (zA gw (h 503) 36 s_fixed)] H) (hD : va_D A [(zOX4 h s_length), (zA gw (h 501) 36 s_letters), (zA gw (h 502) 36 s_breaks), (zA gw (h 503) 36 s_fixed)]) (hS : va_S A s.heap H locs) (hl : lv_has ls 2 [(0, .ref (h 4))]) : W p l e rmX4_append s m args below meth c H locs 0 0 (MQ below (zQ gw none [(zOX4 h (u.1)), (zA gw (h 501) 36 (u.2.1)), (zA gw (h 502) 36 (u.2.2)), (zA gw (h 503) 36 s_fixed)] A) args s 0 0 A) (F0 m 34 ls [.int (zi t2), .int (zi t1), .ref (h 502)]) := by
  obtain ⟨hx, hb, hml, hr, hown, hts, hlk, hK, hA, hnm⟩ := id F
  have hown : s.vm.findClass RX4 = some m.cls := hown
  unfold m_X4_append_34 at hm
  obtain ⟨g_34, hm⟩ := gd_e hm
  obtain ⟨s_breaks_34, e_s_breaks_34, hm⟩ := vl_e hm
  refine z_iast hx hb hK hP hD hS 2 rfl g_34 (by decide) e_s_breaks_34 dX4_append_34 (fun H locs hP hD hS => ?_)
  have hP : va_P gw.1 vwCl [(zOX4 h s_length), (zA gw (h 501) 36 s_letters), (zA gw (h 502) 36 s_breaks_34), (zA gw (h 503) 36 s_fixed)] H := hP
  have hD : va_D A [(zOX4 h s_length), (zA gw (h 501) 36 s_letters), (zA gw (h 502) 36 s_breaks_34), (zA gw (h 503) 36 s_fixed)] := hD
  refine lv_aload_n hx hb dX4_append_35 rfl (lv_at hl 0 rfl) ?_
  refine lv_dup hx hb dX4_append_36 rfl ?_
  refine va_get (D := gw.1) (ci := 4) (v := .int (zi s_length)) (C := RX4) (T := TX4) (N := 4) hx hb hts iX4_append_X4 hown hK.1 hP 0 rfl rfl 0 (by decide) (hts (.fieldLink RX4 21 "SoundLine$Sheet" "length" "I") (by decide +kernel)) (fun _ h9 => h9) rfl dX4_append_37 ?_
  refine lv_iconst (v := zi 1) hx hb dX4_append_40 rfl ?_
  refine z_iadd hx hb dX4_append_41 ?_
  obtain ⟨s_length_42, e_s_length_42, hm⟩ := vl_e hm
  refine z_top e_s_length_42 ?_
  refine va_put (D := gw.1) (ci := 4) (v := .int (zi s_length_42)) (ty := .int) (C := RX4) (T := TX4) (N := 4) hx hb hts iX4_append_X4 tyX4 tyX4_ok nmX4 hown hK.1 hP hD hS 0 rfl rfl 0 (by decide) (hts (.fieldLink RX4 21 "SoundLine$Sheet" "length" "I") (by decide +kernel)) (fun _ h9 => h9) rfl (by decide +kernel) rfl rfl (Nat.le_of_ble_eq_true rfl) dX4_append_42 (fun H locs hP hD hS => ?_)
  have hP : va_P gw.1 vwCl [(zOX4 h s_length_42), (zA gw (h 501) 36 s_letters), (zA gw (h 502) 36 s_breaks_34), (zA gw (h 503) 36 s_fixed)] H := hP
  have hD : va_D A [(zOX4 h s_length_42), (zA gw (h 501) 36 s_letters), (zA gw (h 502) 36 s_breaks_34), (zA gw (h 503) 36 s_fixed)] := hD
  cases hm
  exact z_vret hx hb hr hlk hP hD hS dX4_append_45
def m_X4_append (x1 : Int) (s_length : Int) (s_letters : Nat → Int) (s_breaks : Nat → Int) (s_fixed : Nat → Int) : Option (Int × (Nat → Int) × (Nat → Int)) :=
  gd (0 ≤ s_length ∧ s_length < 36) <|
  vl (uz s_letters (Int.toNat s_length) x1) fun s_letters_9 =>
  (m_X4_fixedEndsAt s_length s_fixed).bind fun r_23 =>
  gd (inI r_23) <|
  if r_23 = 0 then
    m_X4_append_34 s_length 0 s_length s_letters_9 s_breaks s_fixed
  else
    m_X4_append_34 s_length 1 s_length s_letters_9 s_breaks s_fixed
set_option maxHeartbeats 4000000 in
set_option maxRecDepth 100000 in
theorem w_X4_append (F : zF p s m args meth c A gw cX4_append 2 none wsX4_append yX4_append) (h : Nat → Nat) (x1 : Int) (s_length : Int) (s_letters : Nat → Int) (s_breaks : Nat → Int) (s_fixed : Nat → Int) (u : Int × (Nat → Int) × (Nat → Int)) (hm : m_X4_append x1 s_length s_letters s_breaks s_fixed = some u) (H : Heap) (locs : List Loc) (ls : Array Slot) (hP : va_P gw.1 vwCl [(zOX4 h s_length), (zA gw (h 501) 36 s_letters), (zA gw (h 502) 36 s_breaks), (zA gw (h 503) 36 s_fixed)] H) (hD : va_D A [(zOX4 h s_length), (zA gw (h 501) 36 s_letters), (zA gw (h 502) 36 s_breaks), (zA gw (h 503) 36 s_fixed)]) (hS : va_S A s.heap H locs) (hl : lv_has ls 2 [(0, .ref (h 4)), (1, .int (zi x1))]) : W p l e rmX4_append s m args below meth c H locs 0 0 (MQ below (zQ gw none [(zOX4 h (u.1)), (zA gw (h 501) 36 (u.2.1)), (zA gw (h 502) 36 (u.2.2)), (zA gw (h 503) 36 s_fixed)] A) args s 0 0 A) (F0 m 0 ls []) := by
  obtain ⟨hx, hb, hml, hr, hown, hts, hlk, hK, hA, hnm⟩ := id F
  have hown : s.vm.findClass RX4 = some m.cls := hown
  unfold m_X4_append at hm
  refine lv_aload_n hx hb dX4_append_0 rfl (lv_at hl 0 rfl) ?_
  refine va_get (D := gw.1) (ci := 4) (v := .ref (h 501)) (C := RX4) (T := TX4) (N := 4) hx hb hts iX4_append_X4 hown hK.1 hP 0 rfl rfl 1 (by decide) (hts (.fieldLink RX4 9 "SoundLine$Sheet" "letters" "[I") (by decide +kernel)) (fun _ h9 => h9) rfl dX4_append_1 ?_
  refine lv_aload_n hx hb dX4_append_4 rfl (lv_at hl 0 rfl) ?_
  refine va_get (D := gw.1) (ci := 4) (v := .int (zi s_length)) (C := RX4) (T := TX4) (N := 4) hx hb hts iX4_append_X4 hown hK.1 hP 0 rfl rfl 0 (by decide) (hts (.fieldLink RX4 21 "SoundLine$Sheet" "length" "I") (by decide +kernel)) (fun _ h9 => h9) rfl dX4_append_5 ?_
  refine lv_iload_n hx hb dX4_append_8 rfl (lv_at hl 1 rfl) ?_
  obtain ⟨g_9, hm⟩ := gd_e hm
  obtain ⟨s_letters_9, e_s_letters_9, hm⟩ := vl_e hm
  refine z_iast hx hb hK hP hD hS 1 rfl g_9 (by decide) e_s_letters_9 dX4_append_9 (fun H locs hP hD hS => ?_)
  have hP : va_P gw.1 vwCl [(zOX4 h s_length), (zA gw (h 501) 36 s_letters_9), (zA gw (h 502) 36 s_breaks), (zA gw (h 503) 36 s_fixed)] H := hP
  have hD : va_D A [(zOX4 h s_length), (zA gw (h 501) 36 s_letters_9), (zA gw (h 502) 36 s_breaks), (zA gw (h 503) 36 s_fixed)] := hD
  refine lv_aload_n hx hb dX4_append_10 rfl (lv_at hl 0 rfl) ?_
  refine va_get (D := gw.1) (ci := 4) (v := .ref (h 502)) (C := RX4) (T := TX4) (N := 4) hx hb hts iX4_append_X4 hown hK.1 hP 0 rfl rfl 2 (by decide) (hts (.fieldLink RX4 15 "SoundLine$Sheet" "breaks" "[I") (by decide +kernel)) (fun _ h9 => h9) rfl dX4_append_11 ?_
  refine lv_aload_n hx hb dX4_append_14 rfl (lv_at hl 0 rfl) ?_
  refine va_get (D := gw.1) (ci := 4) (v := .int (zi s_length)) (C := RX4) (T := TX4) (N := 4) hx hb hts iX4_append_X4 hown hK.1 hP 0 rfl rfl 0 (by decide) (hts (.fieldLink RX4 21 "SoundLine$Sheet" "length" "I") (by decide +kernel)) (fun _ h9 => h9) rfl dX4_append_15 ?_
  refine lv_aload_n hx hb dX4_append_18 rfl (lv_at hl 0 rfl) ?_
  refine lv_aload_n hx hb dX4_append_19 rfl (lv_at hl 0 rfl) ?_
  refine va_get (D := gw.1) (ci := 4) (v := .int (zi s_length)) (C := RX4) (T := TX4) (N := 4) hx hb hts iX4_append_X4 hown hK.1 hP 0 rfl rfl 0 (by decide) (hts (.fieldLink RX4 21 "SoundLine$Sheet" "length" "I") (by decide +kernel)) (fun _ h9 => h9) rfl dX4_append_20 ?_
  obtain ⟨r_23, hr_23, hm⟩ := bd_e hm
  refine z_callV (As := [.int (zi s_length)]) (rest := [.int (zi s_length), .ref (h 502)]) (wr := [(zA gw (h 501) 36 s_letters_9), (zA gw (h 502) 36 s_breaks)]) (ws' := [(zOX4 h s_length), (zA gw (h 501) 36 s_letters_9), (zA gw (h 502) 36 s_breaks), (zA gw (h 503) 36 s_fixed)]) ⟨hx, hb, hml, hown, hts⟩ (c_X4_fixedEndsAt l gw h s_length s_length s_fixed r_23 hr_23 H.size) (cwV 1 hts gX4_append_X4_fixedEndsAt rfl rfl rfl (by decide +kernel) ⟨Nat.le_of_ble_eq_true rfl, Nat.le_of_ble_eq_true rfl⟩) hK hP hD hS hA [0, 3] [1, 2] [2, 0, 1, 3] (by decide) rfl rfl (by decide) (by decide) rfl (by decide) 0 4 rfl rfl rfl rfl hl.1 (Nat.le_of_ble_eq_true rfl) dX4_append_23 ⟨Nat.zero_le _, Nat.zero_le _⟩ rfl (fun H locs hP hD hS => ?_)
  have hP : va_P gw.1 vwCl [(zOX4 h s_length), (zA gw (h 501) 36 s_letters_9), (zA gw (h 502) 36 s_breaks), (zA gw (h 503) 36 s_fixed)] H := hP
  have hD : va_D A [(zOX4 h s_length), (zA gw (h 501) 36 s_letters_9), (zA gw (h 502) 36 s_breaks), (zA gw (h 503) 36 s_fixed)] := hD
  refine W.eq (g2 := F0 m 26 ls [.int (zi r_23), .int (zi s_length), .ref (h 502)]) rfl ?_
  obtain ⟨g_26, hm⟩ := gd_e hm
  refine z_if_eq (tgt := 33) hx hb g_26 dX4_append_26 (by decide) (fun c_26 => ?_) (fun c_26 => ?_)
  · have hm := if_p hm c_26
    refine lv_iconst (v := zi 0) hx hb dX4_append_33 rfl ?_
    exact w_X4_append_34 F h s_length 0 s_length s_letters_9 s_breaks s_fixed _ hm _ _ _ hP hD hS (lv_sub hl [0] rfl)
  · have hm := if_n hm c_26
    refine lv_iconst (v := zi 1) hx hb dX4_append_29 rfl ?_
    refine lv_goto (tgt := 34) hx hb dX4_append_30 (by decide) ?_
    exact w_X4_append_34 F h s_length 1 s_length s_letters_9 s_breaks s_fixed _ hm _ _ _ hP hD hS (lv_sub hl [0] rfl)
theorem c_X4_append (l : Launch) (gw : zG) (h : Nat → Nat) (x1 : Int) (s_length : Int) (s_letters : Nat → Int) (s_breaks : Nat → Int) (s_fixed : Nat → Int) (u : Int × (Nat → Int) × (Nat → Int)) (hm : m_X4_append x1 s_length s_letters s_breaks s_fixed = some u) (sz : Nat) : Met l yX4_append wsX4_append rmX4_append (va_Pc [.ref (h 4), .int (zi x1)] (zPre gw [(zOX4 h s_length), (zA gw (h 501) 36 s_letters), (zA gw (h 502) 36 s_breaks), (zA gw (h 503) 36 s_fixed)] sz)) (zQ gw none [(zOX4 h (u.1)), (zA gw (h 501) 36 (u.2.1)), (zA gw (h 502) 36 (u.2.2)), (zA gw (h 503) 36 s_fixed)] (va_A [(zOX4 h s_length), (zA gw (h 501) 36 s_letters), (zA gw (h 502) 36 s_breaks), (zA gw (h 503) 36 s_fixed)] sz)) 0 0 (va_A [(zOX4 h s_length), (zA gw (h 501) 36 s_letters), (zA gw (h 502) 36 s_breaks), (zA gw (h 503) 36 s_fixed)] sz) :=
  z_met (by decide) rfl (Nat.le_of_ble_eq_true rfl) rfl (fun p e s m args below meth c A F hsz ls hl hP hD => w_X4_append F h x1 s_length s_letters s_breaks s_fixed u hm s.heap [] ls hP hD va_S.rf hl)
abbrev rmX4_freeHand : Room := { frames := 1, cells := 0, slots := 0, locals := 23 }
theorem iX4_freeHand_X4 : ∀ w ∈ wsX40, w ∈ wsX4_freeHand := by decide +kernel
def m_X4_freeHand (s_breaks : Nat → Int) (s_fixed : Nat → Int) : Option ((Nat → Int) × (Nat → Int)) :=
  (m_J7_fill_53178 0 s_breaks 36).bind fun s_breaks_5 =>
  (m_J7_fill_53178 0 s_fixed 36).bind fun s_fixed_13 =>
  some (s_breaks_5, s_fixed_13)
set_option maxHeartbeats 4000000 in
set_option maxRecDepth 100000 in
theorem w_X4_freeHand (F : zF p s m args meth c A gw cX4_freeHand 1 none wsX4_freeHand yX4_freeHand) (h : Nat → Nat) (s_length : Int) (s_breaks : Nat → Int) (s_fixed : Nat → Int) (u : (Nat → Int) × (Nat → Int)) (hm : m_X4_freeHand s_breaks s_fixed = some u) (H : Heap) (locs : List Loc) (ls : Array Slot) (hP : va_P gw.1 vwCl [(zOX4 h s_length), (zA gw (h 502) 36 s_breaks), (zA gw (h 503) 36 s_fixed)] H) (hD : va_D A [(zOX4 h s_length), (zA gw (h 502) 36 s_breaks), (zA gw (h 503) 36 s_fixed)]) (hS : va_S A s.heap H locs) (hl : lv_has ls 1 [(0, .ref (h 4))]) : W p l e rmX4_freeHand s m args below meth c H locs 0 0 (MQ below (zQ gw none [(zOX4 h s_length), (zA gw (h 502) 36 (u.1)), (zA gw (h 503) 36 (u.2))] A) args s 0 0 A) (F0 m 0 ls []) := by
  obtain ⟨hx, hb, hml, hr, hown, hts, hlk, hK, hA, hnm⟩ := id F
  have hown : s.vm.findClass RX4 = some m.cls := hown
  unfold m_X4_freeHand at hm
  refine lv_aload_n hx hb dX4_freeHand_0 rfl (lv_at hl 0 rfl) ?_
  refine va_get (D := gw.1) (ci := 4) (v := .ref (h 502)) (C := RX4) (T := TX4) (N := 4) hx hb hts iX4_freeHand_X4 hown hK.1 hP 0 rfl rfl 2 (by decide) (hts (.fieldLink RX4 15 "SoundLine$Sheet" "breaks" "[I") (by decide +kernel)) (fun _ h9 => h9) rfl dX4_freeHand_1 ?_
  refine lv_iconst (v := zi 0) hx hb dX4_freeHand_4 rfl ?_
  obtain ⟨s_breaks_5, hs_breaks_5, hm⟩ := bd_e hm
  refine z_callS (As := [.ref (h 502), .int (zi 0)]) (rest := []) (wr := [(zOX4 h s_length), (zA gw (h 503) 36 s_fixed)]) (ws' := [(zOX4 h s_length), (zA gw (h 502) 36 s_breaks_5), (zA gw (h 503) 36 s_fixed)]) ⟨hx, hb, hml, hown, hts⟩ (c_J7_fill_53178 l gw h (h 502) 36 (by decide) 0 s_breaks s_breaks_5 hs_breaks_5 H.size) (va_cwS 2 hts gX4_freeHand_J7_fill_53178 rfl rfl rfl (by decide +kernel) ⟨Nat.le_of_ble_eq_true rfl, Nat.le_of_ble_eq_true rfl⟩) hK hP hD hS hA [1] [0, 2] [0, 2, 1] (by decide) rfl rfl (by decide) (by decide) rfl (by decide) rfl hl.1 (Nat.le_of_ble_eq_true rfl) dX4_freeHand_5 ⟨Nat.zero_le _, Nat.zero_le _⟩ rfl (fun H locs hP hD hS => ?_)
  have hP : va_P gw.1 vwCl [(zOX4 h s_length), (zA gw (h 502) 36 s_breaks_5), (zA gw (h 503) 36 s_fixed)] H := hP
  have hD : va_D A [(zOX4 h s_length), (zA gw (h 502) 36 s_breaks_5), (zA gw (h 503) 36 s_fixed)] := hD
  refine W.eq (g2 := F0 m 8 ls []) rfl ?_
  refine lv_aload_n hx hb dX4_freeHand_8 rfl (lv_at hl 0 rfl) ?_
  refine va_get (D := gw.1) (ci := 4) (v := .ref (h 503)) (C := RX4) (T := TX4) (N := 4) hx hb hts iX4_freeHand_X4 hown hK.1 hP 0 rfl rfl 3 (by decide) (hts (.fieldLink RX4 18 "SoundLine$Sheet" "fixed" "[I") (by decide +kernel)) (fun _ h9 => h9) rfl dX4_freeHand_9 ?_
  refine lv_iconst (v := zi 0) hx hb dX4_freeHand_12 rfl ?_
  obtain ⟨s_fixed_13, hs_fixed_13, hm⟩ := bd_e hm
  refine z_callS (As := [.ref (h 503), .int (zi 0)]) (rest := []) (wr := [(zOX4 h s_length), (zA gw (h 502) 36 s_breaks_5)]) (ws' := [(zOX4 h s_length), (zA gw (h 502) 36 s_breaks_5), (zA gw (h 503) 36 s_fixed_13)]) ⟨hx, hb, hml, hown, hts⟩ (c_J7_fill_53178 l gw h (h 503) 36 (by decide) 0 s_fixed s_fixed_13 hs_fixed_13 H.size) (va_cwS 2 hts gX4_freeHand_J7_fill_53178 rfl rfl rfl (by decide +kernel) ⟨Nat.le_of_ble_eq_true rfl, Nat.le_of_ble_eq_true rfl⟩) hK hP hD hS hA [2] [0, 1] [0, 1, 2] (by decide) rfl rfl (by decide) (by decide) rfl (by decide) rfl hl.1 (Nat.le_of_ble_eq_true rfl) dX4_freeHand_13 ⟨Nat.zero_le _, Nat.zero_le _⟩ rfl (fun H locs hP hD hS => ?_)
  have hP : va_P gw.1 vwCl [(zOX4 h s_length), (zA gw (h 502) 36 s_breaks_5), (zA gw (h 503) 36 s_fixed_13)] H := hP
  have hD : va_D A [(zOX4 h s_length), (zA gw (h 502) 36 s_breaks_5), (zA gw (h 503) 36 s_fixed_13)] := hD
  refine W.eq (g2 := F0 m 16 ls []) rfl ?_
  cases hm
  exact z_vret hx hb hr hlk hP hD hS dX4_freeHand_16
theorem c_X4_freeHand (l : Launch) (gw : zG) (h : Nat → Nat) (s_length : Int) (s_breaks : Nat → Int) (s_fixed : Nat → Int) (u : (Nat → Int) × (Nat → Int)) (hm : m_X4_freeHand s_breaks s_fixed = some u) (sz : Nat) : Met l yX4_freeHand wsX4_freeHand rmX4_freeHand (va_Pc [.ref (h 4)] (zPre gw [(zOX4 h s_length), (zA gw (h 502) 36 s_breaks), (zA gw (h 503) 36 s_fixed)] sz)) (zQ gw none [(zOX4 h s_length), (zA gw (h 502) 36 (u.1)), (zA gw (h 503) 36 (u.2))] (va_A [(zOX4 h s_length), (zA gw (h 502) 36 s_breaks), (zA gw (h 503) 36 s_fixed)] sz)) 0 0 (va_A [(zOX4 h s_length), (zA gw (h 502) 36 s_breaks), (zA gw (h 503) 36 s_fixed)] sz) :=
  z_met (by decide) rfl (Nat.le_of_ble_eq_true rfl) rfl (fun p e s m args below meth c A F hsz ls hl hP hD => w_X4_freeHand F h s_length s_breaks s_fixed u hm s.heap [] ls hP hD va_S.rf hl)
abbrev rmX4_clear : Room := { frames := 2, cells := 0, slots := 0, locals := 43 }
theorem iX4_clear_X4 : ∀ w ∈ wsX40, w ∈ wsX4_clear := by decide +kernel
def m_X4_clear (s_length : Int) (s_breaks : Nat → Int) (s_fixed : Nat → Int) : Option (Int × (Nat → Int) × (Nat → Int)) :=
  (m_X4_freeHand s_breaks s_fixed).bind fun (s_breaks_6, s_fixed_6) =>
  some (0, s_breaks_6, s_fixed_6)
set_option maxHeartbeats 4000000 in
set_option maxRecDepth 100000 in
theorem w_X4_clear (F : zF p s m args meth c A gw cX4_clear 1 none wsX4_clear yX4_clear) (h : Nat → Nat) (s_length : Int) (s_breaks : Nat → Int) (s_fixed : Nat → Int) (u : Int × (Nat → Int) × (Nat → Int)) (hm : m_X4_clear s_length s_breaks s_fixed = some u) (H : Heap) (locs : List Loc) (ls : Array Slot) (hP : va_P gw.1 vwCl [(zOX4 h s_length), (zA gw (h 502) 36 s_breaks), (zA gw (h 503) 36 s_fixed)] H) (hD : va_D A [(zOX4 h s_length), (zA gw (h 502) 36 s_breaks), (zA gw (h 503) 36 s_fixed)]) (hS : va_S A s.heap H locs) (hl : lv_has ls 1 [(0, .ref (h 4))]) : W p l e rmX4_clear s m args below meth c H locs 0 0 (MQ below (zQ gw none [(zOX4 h (u.1)), (zA gw (h 502) 36 (u.2.1)), (zA gw (h 503) 36 (u.2.2))] A) args s 0 0 A) (F0 m 0 ls []) := by
  obtain ⟨hx, hb, hml, hr, hown, hts, hlk, hK, hA, hnm⟩ := id F
  have hown : s.vm.findClass RX4 = some m.cls := hown
  unfold m_X4_clear at hm
  refine lv_aload_n hx hb dX4_clear_0 rfl (lv_at hl 0 rfl) ?_
  refine lv_iconst (v := zi 0) hx hb dX4_clear_1 rfl ?_
  refine va_put (D := gw.1) (ci := 4) (v := .int (zi 0)) (ty := .int) (C := RX4) (T := TX4) (N := 4) hx hb hts iX4_clear_X4 tyX4 tyX4_ok nmX4 hown hK.1 hP hD hS 0 rfl rfl 0 (by decide) (hts (.fieldLink RX4 21 "SoundLine$Sheet" "length" "I") (by decide +kernel)) (fun _ h9 => h9) rfl (by decide +kernel) rfl rfl (Nat.le_of_ble_eq_true rfl) dX4_clear_2 (fun H locs hP hD hS => ?_)
  have hP : va_P gw.1 vwCl [(zOX4 h 0), (zA gw (h 502) 36 s_breaks), (zA gw (h 503) 36 s_fixed)] H := hP
  have hD : va_D A [(zOX4 h 0), (zA gw (h 502) 36 s_breaks), (zA gw (h 503) 36 s_fixed)] := hD
  refine lv_aload_n hx hb dX4_clear_5 rfl (lv_at hl 0 rfl) ?_
  obtain ⟨u_6, hu_6, hm⟩ := bd_e hm
  obtain ⟨s_breaks_6, s_fixed_6⟩ := u_6
  refine z_callV (As := []) (rest := []) (wr := []) (ws' := [(zOX4 h 0), (zA gw (h 502) 36 s_breaks_6), (zA gw (h 503) 36 s_fixed_6)]) ⟨hx, hb, hml, hown, hts⟩ (c_X4_freeHand l gw h 0 s_breaks s_fixed _ hu_6 H.size) (cwV 0 hts gX4_clear_X4_freeHand rfl rfl rfl (by decide +kernel) ⟨Nat.le_of_ble_eq_true rfl, Nat.le_of_ble_eq_true rfl⟩) hK hP hD hS hA [0, 1, 2] [] [0, 1, 2] (by decide) rfl rfl (by decide) (by decide) rfl (by decide) 0 4 rfl rfl rfl rfl hl.1 (Nat.le_of_ble_eq_true rfl) dX4_clear_6 ⟨Nat.zero_le _, Nat.zero_le _⟩ rfl (fun H locs hP hD hS => ?_)
  have hP : va_P gw.1 vwCl [(zOX4 h 0), (zA gw (h 502) 36 s_breaks_6), (zA gw (h 503) 36 s_fixed_6)] H := hP
  have hD : va_D A [(zOX4 h 0), (zA gw (h 502) 36 s_breaks_6), (zA gw (h 503) 36 s_fixed_6)] := hD
  refine W.eq (g2 := F0 m 9 ls []) rfl ?_
  cases hm
  exact z_vret hx hb hr hlk hP hD hS dX4_clear_9
theorem c_X4_clear (l : Launch) (gw : zG) (h : Nat → Nat) (s_length : Int) (s_breaks : Nat → Int) (s_fixed : Nat → Int) (u : Int × (Nat → Int) × (Nat → Int)) (hm : m_X4_clear s_length s_breaks s_fixed = some u) (sz : Nat) : Met l yX4_clear wsX4_clear rmX4_clear (va_Pc [.ref (h 4)] (zPre gw [(zOX4 h s_length), (zA gw (h 502) 36 s_breaks), (zA gw (h 503) 36 s_fixed)] sz)) (zQ gw none [(zOX4 h (u.1)), (zA gw (h 502) 36 (u.2.1)), (zA gw (h 503) 36 (u.2.2))] (va_A [(zOX4 h s_length), (zA gw (h 502) 36 s_breaks), (zA gw (h 503) 36 s_fixed)] sz)) 0 0 (va_A [(zOX4 h s_length), (zA gw (h 502) 36 s_breaks), (zA gw (h 503) 36 s_fixed)] sz) :=
  z_met (by decide) rfl (Nat.le_of_ble_eq_true rfl) rfl (fun p e s m args below meth c A F hsz ls hl hP hD => w_X4_clear F h s_length s_breaks s_fixed u hm s.heap [] ls hP hD va_S.rf hl)
abbrev rmX4_fixedParts : Room := { frames := 0, cells := 0, slots := 0, locals := 0 }
theorem iX4_fixedParts_X4 : ∀ w ∈ wsX40, w ∈ wsX4_fixedParts := by decide +kernel
def m_X4_fixedParts_4 (x1 : Int) (x2 : Int) (s_fixed : Nat → Int) : Option (Nat × (Int × Int)) :=
  gd (inI x2) <|
  if 36 ≤ x2 then
    some (1, (x1, x2))
  else
    gd (0 ≤ x2 ∧ x2 < 36) <|
    gd (inI (s_fixed (Int.toNat x2))) <|
    if (s_fixed (Int.toNat x2)) = 0 then
      vl (x2 + 1) fun x2_22 =>
      some (0, (x1, x2_22))
    else
      vl (x1 + 1) fun x1_19 =>
      vl (x2 + 1) fun x2_22_v2 =>
      some (0, (x1_19, x2_22_v2))
set_option maxHeartbeats 4000000 in
set_option maxRecDepth 100000 in
theorem w_X4_fixedParts_4 (F : zF p s m args meth c A gw cX4_fixedParts 3 (some .int) wsX4_fixedParts yX4_fixedParts) (h : Nat → Nat) (s_length : Int)  (x1 : Int) (x2 : Int) (s_fixed : Nat → Int) (u : Nat × (Int × Int)) (hm : m_X4_fixedParts_4 x1 x2 s_fixed = some u) (H : Heap) (locs : List Loc) (ls : Array Slot) (hP : va_P gw.1 vwCl [(zOX4 h s_length), (zA gw (h 503) 36 s_fixed)] H) (hD : va_D A [(zOX4 h s_length), (zA gw (h 503) 36 s_fixed)]) (hS : va_S A s.heap H locs) (hl : lv_has ls 3 [(0, .ref (h 4)), (1, .int (zi x1)), (2, .int (zi x2))]) (k0 : u.1 = 0 → ∀ (H : Heap) (locs : List Loc) (ls : Array Slot), va_P gw.1 vwCl [(zOX4 h s_length), (zA gw (h 503) 36 s_fixed)] H → va_D A [(zOX4 h s_length), (zA gw (h 503) 36 s_fixed)] → va_S A s.heap H locs → lv_has ls 3 [(0, .ref (h 4)), (1, .int (zi (u.2.1))), (2, .int (zi (u.2.2)))] → W p l e rmX4_fixedParts s m args below meth c H locs 0 0 Q (F0 m 4 ls [])) (k1 : u.1 = 1 → ∀ (H : Heap) (locs : List Loc) (ls : Array Slot), va_P gw.1 vwCl [(zOX4 h s_length), (zA gw (h 503) 36 s_fixed)] H → va_D A [(zOX4 h s_length), (zA gw (h 503) 36 s_fixed)] → va_S A s.heap H locs → lv_has ls 3 [(1, .int (zi (u.2.1)))] → W p l e rmX4_fixedParts s m args below meth c H locs 0 0 Q (F0 m 28 ls [])) : W p l e rmX4_fixedParts s m args below meth c H locs 0 0 Q (F0 m 4 ls []) := by
  obtain ⟨hx, hb, hml, hr, hown, hts, hlk, hK, hA, hnm⟩ := id F
  have hown : s.vm.findClass RX4 = some m.cls := hown
  unfold m_X4_fixedParts_4 at hm
  refine lv_iload_n hx hb dX4_fixedParts_4 rfl (lv_at hl 2 rfl) ?_
  refine lv_bipush (v := zi 36) hx hb dX4_fixedParts_5 (by decide) ?_
  obtain ⟨g_7, hm⟩ := gd_e hm
  refine z_icmp_ge (tgt := 28) hx hb g_7 (by decide) dX4_fixedParts_7 (by decide) (fun c_7 => ?_) (fun c_7 => ?_)
  · have hm := if_p hm c_7
    cases hm
    exact k1 rfl _ _ _ hP hD hS (lv_sub hl [1] rfl)
  · have hm := if_n hm c_7
    refine lv_aload_n hx hb dX4_fixedParts_10 rfl (lv_at hl 0 rfl) ?_
    refine va_get (D := gw.1) (ci := 4) (v := .ref (h 503)) (C := RX4) (T := TX4) (N := 4) hx hb hts iX4_fixedParts_X4 hown hK.1 hP 0 rfl rfl 3 (by decide) (hts (.fieldLink RX4 18 "SoundLine$Sheet" "fixed" "[I") (by decide +kernel)) (fun _ h9 => h9) rfl dX4_fixedParts_11 ?_
    refine lv_iload_n hx hb dX4_fixedParts_14 rfl (lv_at hl 2 rfl) ?_
    obtain ⟨g_15, hm⟩ := gd_e hm
    refine z_iald hx hb hK hP 1 rfl g_15 (by decide) dX4_fixedParts_15 ?_
    obtain ⟨g_16, hm⟩ := gd_e hm
    refine z_if_eq (tgt := 22) hx hb g_16 dX4_fixedParts_16 (by decide) (fun c_16 => ?_) (fun c_16 => ?_)
    · have hm := if_p hm c_16
      obtain ⟨x2_22, e_x2_22, hm⟩ := vl_e hm
      refine lv_iinc (v := zi x2_22) (lv' := [(2, .int (zi x2_22)), (0, .ref (h 4)), (1, .int (zi x1))]) hx hb dX4_fixedParts_22 hl (k := 2) rfl (by rw [e_x2_22]; exact zi_add _ _) (by decide) rfl (fun ls hl => ?_)
      refine lv_goto (tgt := 4) hx hb dX4_fixedParts_25 (by decide) ?_
      cases hm
      exact k0 rfl _ _ _ hP hD hS (lv_sub hl [1, 2, 0] rfl)
    · have hm := if_n hm c_16
      obtain ⟨x1_19, e_x1_19, hm⟩ := vl_e hm
      refine lv_iinc (v := zi x1_19) (lv' := [(1, .int (zi x1_19)), (0, .ref (h 4)), (2, .int (zi x2))]) hx hb dX4_fixedParts_19 hl (k := 1) rfl (by rw [e_x1_19]; exact zi_add _ _) (by decide) rfl (fun ls hl => ?_)
      obtain ⟨x2_22_v2, e_x2_22_v2, hm⟩ := vl_e hm
      refine lv_iinc (v := zi x2_22_v2) (lv' := [(2, .int (zi x2_22_v2)), (1, .int (zi x1_19)), (0, .ref (h 4))]) hx hb dX4_fixedParts_22 hl (k := 2) rfl (by rw [e_x2_22_v2]; exact zi_add _ _) (by decide) rfl (fun ls hl => ?_)
      refine lv_goto (tgt := 4) hx hb dX4_fixedParts_25 (by decide) ?_
      cases hm
      exact k0 rfl _ _ _ hP hD hS (lv_sub hl [2, 1, 0] rfl)
set_option maxHeartbeats 4000000 in
theorem l_X4_fixedParts_4 (F : zF p s m args meth c A gw cX4_fixedParts 3 (some .int) wsX4_fixedParts yX4_fixedParts) (h : Nat → Nat) (s_length : Int)  (s_fixed : Nat → Int) (n : Nat) (a : Int × Int) (u : Nat × (Int × Int)) (hm : zloop (fun a => m_X4_fixedParts_4 a.1 a.2 s_fixed) n a = some u) (k1 : u.1 = 1 → ∀ (H : Heap) (locs : List Loc) (ls : Array Slot), va_P gw.1 vwCl [(zOX4 h s_length), (zA gw (h 503) 36 s_fixed)] H → va_D A [(zOX4 h s_length), (zA gw (h 503) 36 s_fixed)] → va_S A s.heap H locs → lv_has ls 3 [(1, .int (zi (u.2.1)))] → W p l e rmX4_fixedParts s m args below meth c H locs 0 0 Q (F0 m 28 ls [])) (H : Heap) (locs : List Loc) (ls : Array Slot) (hP : va_P gw.1 vwCl [(zOX4 h s_length), (zA gw (h 503) 36 s_fixed)] H) (hD : va_D A [(zOX4 h s_length), (zA gw (h 503) 36 s_fixed)]) (hS : va_S A s.heap H locs) (hl : lv_has ls 3 [(0, .ref (h 4)), (1, .int (zi (a.1))), (2, .int (zi (a.2)))]) : W p l e rmX4_fixedParts s m args below meth c H locs 0 0 Q (F0 m 4 ls []) := by
  refine zloop_ind (P := fun a => ∀ (H : Heap) (locs : List Loc) (ls : Array Slot), va_P gw.1 vwCl [(zOX4 h s_length), (zA gw (h 503) 36 s_fixed)] H → va_D A [(zOX4 h s_length), (zA gw (h 503) 36 s_fixed)] → va_S A s.heap H locs → lv_has ls 3 [(0, .ref (h 4)), (1, .int (zi (a.1))), (2, .int (zi (a.2)))] → W p l e rmX4_fixedParts s m args below meth c H locs 0 0 Q (F0 m 4 ls [])) (K := fun w => (w.1 = 1 → ∀ (H : Heap) (locs : List Loc) (ls : Array Slot), va_P gw.1 vwCl [(zOX4 h s_length), (zA gw (h 503) 36 s_fixed)] H → va_D A [(zOX4 h s_length), (zA gw (h 503) 36 s_fixed)] → va_S A s.heap H locs → lv_has ls 3 [(1, .int (zi (w.2.1)))] → W p l e rmX4_fixedParts s m args below meth c H locs 0 0 Q (F0 m 28 ls []))) (fun a w hb h0 hk H locs ls hP hD hS hl => ?_) n a u hm (fun _ => k1) H locs ls hP hD hS hl
  exact w_X4_fixedParts_4 F h s_length  a.1 a.2 s_fixed w hb H locs ls hP hD hS hl (fun z H locs ls hP hD hS hl => h0 z H locs ls hP hD hS hl) (fun z => (hk (by rw [z]; decide)) z)
def m_X4_fixedParts (s_fixed : Nat → Int) : Option (Int) :=
  (zloop (fun a => m_X4_fixedParts_4 a.1 a.2 s_fixed) FU (0, 0)).bind fun (t_4, x1_4, x2_4) =>
  some x1_4
set_option maxHeartbeats 4000000 in
set_option maxRecDepth 100000 in
theorem w_X4_fixedParts (F : zF p s m args meth c A gw cX4_fixedParts 3 (some .int) wsX4_fixedParts yX4_fixedParts) (h : Nat → Nat) (s_length : Int) (s_fixed : Nat → Int) (u : Int) (hm : m_X4_fixedParts s_fixed = some u) (H : Heap) (locs : List Loc) (ls : Array Slot) (hP : va_P gw.1 vwCl [(zOX4 h s_length), (zA gw (h 503) 36 s_fixed)] H) (hD : va_D A [(zOX4 h s_length), (zA gw (h 503) 36 s_fixed)]) (hS : va_S A s.heap H locs) (hl : lv_has ls 3 [(0, .ref (h 4))]) : W p l e rmX4_fixedParts s m args below meth c H locs 0 0 (MQ below (zQ gw (some (.int (zi u))) [(zOX4 h s_length), (zA gw (h 503) 36 s_fixed)] A) args s 0 0 A) (F0 m 0 ls []) := by
  obtain ⟨hx, hb, hml, hr, hown, hts, hlk, hK, hA, hnm⟩ := id F
  have hown : s.vm.findClass RX4 = some m.cls := hown
  unfold m_X4_fixedParts at hm
  refine lv_iconst (v := zi 0) hx hb dX4_fixedParts_0 rfl ?_
  refine lv_istore_n (lv' := [(1, .int (zi 0)), (0, .ref (h 4))]) hx hb dX4_fixedParts_1 rfl hl (by decide) rfl (fun ls hl => ?_)
  refine lv_iconst (v := zi 0) hx hb dX4_fixedParts_2 rfl ?_
  refine lv_istore_n (lv' := [(2, .int (zi 0)), (1, .int (zi 0)), (0, .ref (h 4))]) hx hb dX4_fixedParts_3 rfl hl (by decide) rfl (fun ls hl => ?_)
  obtain ⟨u_4, hu_4, hm⟩ := bd_e hm
  obtain ⟨t_4, x1_4, x2_4⟩ := u_4
  refine l_X4_fixedParts_4 F h s_length  s_fixed FU (0, 0) _ hu_4 (fun z_4 H locs ls hP hD hS hl => ?_) _ _ _ hP hD hS (lv_sub hl [2, 1, 0] rfl)
  have hP : va_P gw.1 vwCl [(zOX4 h s_length), (zA gw (h 503) 36 s_fixed)] H := hP
  have hD : va_D A [(zOX4 h s_length), (zA gw (h 503) 36 s_fixed)] := hD
  have hl : lv_has ls 3 [(1, .int (zi x1_4))] := hl
  refine lv_iload_n hx hb dX4_fixedParts_28 rfl (lv_at hl 0 rfl) ?_
  cases hm
  exact z_iret hx hb hr hlk hP hD hS dX4_fixedParts_29
theorem c_X4_fixedParts (l : Launch) (gw : zG) (h : Nat → Nat) (s_length : Int) (s_fixed : Nat → Int) (u : Int) (hm : m_X4_fixedParts s_fixed = some u) (sz : Nat) : Met l yX4_fixedParts wsX4_fixedParts rmX4_fixedParts (va_Pc [.ref (h 4)] (zPre gw [(zOX4 h s_length), (zA gw (h 503) 36 s_fixed)] sz)) (zQ gw (some (.int (zi u))) [(zOX4 h s_length), (zA gw (h 503) 36 s_fixed)] (va_A [(zOX4 h s_length), (zA gw (h 503) 36 s_fixed)] sz)) 0 0 (va_A [(zOX4 h s_length), (zA gw (h 503) 36 s_fixed)] sz) :=
  z_met (by decide) rfl (Nat.le_of_ble_eq_true rfl) rfl (fun p e s m args below meth c A F hsz ls hl hP hD => w_X4_fixedParts F h s_length s_fixed u hm s.heap [] ls hP hD va_S.rf hl)
abbrev rmX4_wantBreak : Room := { frames := 0, cells := 0, slots := 0, locals := 0 }
theorem iX4_wantBreak_X4 : ∀ w ∈ wsX40, w ∈ wsX4_wantBreak := by decide +kernel
def m_X4_wantBreak (x1 : Int) (s_length : Int) (s_breaks : Nat → Int) : Option ((Nat → Int)) :=
  gd (inI x1) <|
  if x1 ≤ 0 then
    some s_breaks
  else
    gd (inI s_length) <|
    if s_length ≤ x1 then
      some s_breaks
    else
      gd (0 ≤ x1 ∧ x1 < 36) <|
      vl (uz s_breaks (Int.toNat x1) 1) fun s_breaks_18 =>
      some s_breaks_18
set_option maxHeartbeats 4000000 in
set_option maxRecDepth 100000 in
theorem w_X4_wantBreak (F : zF p s m args meth c A gw cX4_wantBreak 2 none wsX4_wantBreak yX4_wantBreak) (h : Nat → Nat) (x1 : Int) (s_length : Int) (s_breaks : Nat → Int) (u : (Nat → Int)) (hm : m_X4_wantBreak x1 s_length s_breaks = some u) (H : Heap) (locs : List Loc) (ls : Array Slot) (hP : va_P gw.1 vwCl [(zOX4 h s_length), (zA gw (h 502) 36 s_breaks)] H) (hD : va_D A [(zOX4 h s_length), (zA gw (h 502) 36 s_breaks)]) (hS : va_S A s.heap H locs) (hl : lv_has ls 2 [(0, .ref (h 4)), (1, .int (zi x1))]) : W p l e rmX4_wantBreak s m args below meth c H locs 0 0 (MQ below (zQ gw none [(zOX4 h s_length), (zA gw (h 502) 36 u)] A) args s 0 0 A) (F0 m 0 ls []) := by
  obtain ⟨hx, hb, hml, hr, hown, hts, hlk, hK, hA, hnm⟩ := id F
  have hown : s.vm.findClass RX4 = some m.cls := hown
  unfold m_X4_wantBreak at hm
  refine lv_iload_n hx hb dX4_wantBreak_0 rfl (lv_at hl 1 rfl) ?_
  obtain ⟨g_1, hm⟩ := gd_e hm
  refine z_if_le (tgt := 19) hx hb g_1 dX4_wantBreak_1 (by decide) (fun c_1 => ?_) (fun c_1 => ?_)
  · have hm := if_p hm c_1
    cases hm
    exact z_vret hx hb hr hlk hP hD hS dX4_wantBreak_19
  · have hm := if_n hm c_1
    refine lv_iload_n hx hb dX4_wantBreak_4 rfl (lv_at hl 1 rfl) ?_
    refine lv_aload_n hx hb dX4_wantBreak_5 rfl (lv_at hl 0 rfl) ?_
    refine va_get (D := gw.1) (ci := 4) (v := .int (zi s_length)) (C := RX4) (T := TX4) (N := 4) hx hb hts iX4_wantBreak_X4 hown hK.1 hP 0 rfl rfl 0 (by decide) (hts (.fieldLink RX4 21 "SoundLine$Sheet" "length" "I") (by decide +kernel)) (fun _ h9 => h9) rfl dX4_wantBreak_6 ?_
    obtain ⟨g_9, hm⟩ := gd_e hm
    refine z_icmp_ge (tgt := 19) hx hb g_1 g_9 dX4_wantBreak_9 (by decide) (fun c_9 => ?_) (fun c_9 => ?_)
    · have hm := if_p hm c_9
      cases hm
      exact z_vret hx hb hr hlk hP hD hS dX4_wantBreak_19
    · have hm := if_n hm c_9
      refine lv_aload_n hx hb dX4_wantBreak_12 rfl (lv_at hl 0 rfl) ?_
      refine va_get (D := gw.1) (ci := 4) (v := .ref (h 502)) (C := RX4) (T := TX4) (N := 4) hx hb hts iX4_wantBreak_X4 hown hK.1 hP 0 rfl rfl 2 (by decide) (hts (.fieldLink RX4 15 "SoundLine$Sheet" "breaks" "[I") (by decide +kernel)) (fun _ h9 => h9) rfl dX4_wantBreak_13 ?_
      refine lv_iload_n hx hb dX4_wantBreak_16 rfl (lv_at hl 1 rfl) ?_
      refine lv_iconst (v := zi 1) hx hb dX4_wantBreak_17 rfl ?_
      obtain ⟨g_18, hm⟩ := gd_e hm
      obtain ⟨s_breaks_18, e_s_breaks_18, hm⟩ := vl_e hm
      refine z_iast hx hb hK hP hD hS 1 rfl g_18 (by decide) e_s_breaks_18 dX4_wantBreak_18 (fun H locs hP hD hS => ?_)
      have hP : va_P gw.1 vwCl [(zOX4 h s_length), (zA gw (h 502) 36 s_breaks_18)] H := hP
      have hD : va_D A [(zOX4 h s_length), (zA gw (h 502) 36 s_breaks_18)] := hD
      cases hm
      exact z_vret hx hb hr hlk hP hD hS dX4_wantBreak_19
theorem c_X4_wantBreak (l : Launch) (gw : zG) (h : Nat → Nat) (x1 : Int) (s_length : Int) (s_breaks : Nat → Int) (u : (Nat → Int)) (hm : m_X4_wantBreak x1 s_length s_breaks = some u) (sz : Nat) : Met l yX4_wantBreak wsX4_wantBreak rmX4_wantBreak (va_Pc [.ref (h 4), .int (zi x1)] (zPre gw [(zOX4 h s_length), (zA gw (h 502) 36 s_breaks)] sz)) (zQ gw none [(zOX4 h s_length), (zA gw (h 502) 36 u)] (va_A [(zOX4 h s_length), (zA gw (h 502) 36 s_breaks)] sz)) 0 0 (va_A [(zOX4 h s_length), (zA gw (h 502) 36 s_breaks)] sz) :=
  z_met (by decide) rfl (Nat.le_of_ble_eq_true rfl) rfl (fun p e s m args below meth c A F hsz ls hl hP hD => w_X4_wantBreak F h x1 s_length s_breaks u hm s.heap [] ls hP hD va_S.rf hl)
abbrev rmX4_fix : Room := { frames := 1, cells := 0, slots := 0, locals := 24 }
theorem iX4_fix_X4 : ∀ w ∈ wsX40, w ∈ wsX4_fix := by decide +kernel
def m_X4_fix_3 (x1 : Int) (x2 : Int) (x3 : Int) (x4 : Int) (s_length : Int) (s_breaks : Nat → Int) (s_fixed : Nat → Int) : Option (Nat × (Int × (Nat → Int))) :=
  gd (inI x4) <|
  gd (inI x2) <|
  if x2 ≤ x4 then
    some (1, (x4, s_fixed))
  else
    gd (0 ≤ x4 ∧ x4 < 36) <|
    gd (inI (s_fixed (Int.toNat x4))) <|
    gd (inI ((s_fixed (Int.toNat x4)) / 1024)) <|
    gd (inI x1) <|
    if ((s_fixed (Int.toNat x4)) / 1024) ≤ x1 then
      vl (x4 + 1) fun x4_31 =>
      some (0, (x4_31, s_fixed))
    else
      gd (0 ≤ x4 ∧ x4 < 36) <|
      vl (uz s_fixed (Int.toNat x4) 0) fun s_fixed_30 =>
      vl (x4 + 1) fun x4_31_v2 =>
      some (0, (x4_31_v2, s_fixed_30))
set_option maxHeartbeats 4000000 in
set_option maxRecDepth 100000 in
theorem w_X4_fix_3 (F : zF p s m args meth c A gw cX4_fix 5 none wsX4_fix yX4_fix) (h : Nat → Nat)  (x1 : Int) (x2 : Int) (x3 : Int) (x4 : Int) (s_length : Int) (s_breaks : Nat → Int) (s_fixed : Nat → Int) (u : Nat × (Int × (Nat → Int))) (hm : m_X4_fix_3 x1 x2 x3 x4 s_length s_breaks s_fixed = some u) (H : Heap) (locs : List Loc) (ls : Array Slot) (hP : va_P gw.1 vwCl [(zOX4 h s_length), (zA gw (h 502) 36 s_breaks), (zA gw (h 503) 36 s_fixed)] H) (hD : va_D A [(zOX4 h s_length), (zA gw (h 502) 36 s_breaks), (zA gw (h 503) 36 s_fixed)]) (hS : va_S A s.heap H locs) (hl : lv_has ls 5 [(0, .ref (h 4)), (1, .int (zi x1)), (2, .int (zi x2)), (3, .int (zi x3)), (4, .int (zi x4))]) (k0 : u.1 = 0 → ∀ (H : Heap) (locs : List Loc) (ls : Array Slot), va_P gw.1 vwCl [(zOX4 h s_length), (zA gw (h 502) 36 s_breaks), (zA gw (h 503) 36 (u.2.2))] H → va_D A [(zOX4 h s_length), (zA gw (h 502) 36 s_breaks), (zA gw (h 503) 36 (u.2.2))] → va_S A s.heap H locs → lv_has ls 5 [(0, .ref (h 4)), (1, .int (zi x1)), (2, .int (zi x2)), (3, .int (zi x3)), (4, .int (zi (u.2.1)))] → W p l e rmX4_fix s m args below meth c H locs 0 0 Q (F0 m 3 ls [])) (k1 : u.1 = 1 → ∀ (H : Heap) (locs : List Loc) (ls : Array Slot), va_P gw.1 vwCl [(zOX4 h s_length), (zA gw (h 502) 36 s_breaks), (zA gw (h 503) 36 (u.2.2))] H → va_D A [(zOX4 h s_length), (zA gw (h 502) 36 s_breaks), (zA gw (h 503) 36 (u.2.2))] → va_S A s.heap H locs → lv_has ls 5 [(0, .ref (h 4)), (1, .int (zi x1)), (2, .int (zi x2)), (3, .int (zi x3))] → W p l e rmX4_fix s m args below meth c H locs 0 0 Q (F0 m 37 ls [])) : W p l e rmX4_fix s m args below meth c H locs 0 0 Q (F0 m 3 ls []) := by
  obtain ⟨hx, hb, hml, hr, hown, hts, hlk, hK, hA, hnm⟩ := id F
  have hown : s.vm.findClass RX4 = some m.cls := hown
  unfold m_X4_fix_3 at hm
  refine lv_iload hx hb dX4_fix_3 (lv_at hl 4 rfl) ?_
  refine lv_iload_n hx hb dX4_fix_5 rfl (lv_at hl 2 rfl) ?_
  obtain ⟨g_6, hm⟩ := gd_e hm
  obtain ⟨g_6_v2, hm⟩ := gd_e hm
  refine z_icmp_ge (tgt := 37) hx hb g_6 g_6_v2 dX4_fix_6 (by decide) (fun c_6 => ?_) (fun c_6 => ?_)
  · have hm := if_p hm c_6
    cases hm
    exact k1 rfl _ _ _ hP hD hS (lv_sub hl [0, 1, 2, 3] rfl)
  · have hm := if_n hm c_6
    refine lv_aload_n hx hb dX4_fix_9 rfl (lv_at hl 0 rfl) ?_
    refine va_get (D := gw.1) (ci := 4) (v := .ref (h 503)) (C := RX4) (T := TX4) (N := 4) hx hb hts iX4_fix_X4 hown hK.1 hP 0 rfl rfl 3 (by decide) (hts (.fieldLink RX4 18 "SoundLine$Sheet" "fixed" "[I") (by decide +kernel)) (fun _ h9 => h9) rfl dX4_fix_10 ?_
    refine lv_iload hx hb dX4_fix_13 (lv_at hl 4 rfl) ?_
    obtain ⟨g_15, hm⟩ := gd_e hm
    refine z_iald hx hb hK hP 2 rfl g_15 (by decide) dX4_fix_15 ?_
    refine lv_bipush (v := zi 10) hx hb dX4_fix_16 (by decide) ?_
    obtain ⟨g_18, hm⟩ := gd_e hm
    refine z_ishrk (d := 1024) hx hb g_18 (by decide) (by decide) dX4_fix_18 ?_
    refine lv_iload_n hx hb dX4_fix_19 rfl (lv_at hl 1 rfl) ?_
    obtain ⟨g_20, hm⟩ := gd_e hm
    obtain ⟨g_20_v2, hm⟩ := gd_e hm
    refine z_icmp_le (tgt := 31) hx hb g_20 g_20_v2 dX4_fix_20 (by decide) (fun c_20 => ?_) (fun c_20 => ?_)
    · have hm := if_p hm c_20
      obtain ⟨x4_31, e_x4_31, hm⟩ := vl_e hm
      refine lv_iinc (v := zi x4_31) (lv' := [(4, .int (zi x4_31)), (0, .ref (h 4)), (1, .int (zi x1)), (2, .int (zi x2)), (3, .int (zi x3))]) hx hb dX4_fix_31 hl (k := 4) rfl (by rw [e_x4_31]; exact zi_add _ _) (by decide) rfl (fun ls hl => ?_)
      refine lv_goto (tgt := 3) hx hb dX4_fix_34 (by decide) ?_
      cases hm
      exact k0 rfl _ _ _ hP hD hS (lv_sub hl [1, 2, 3, 4, 0] rfl)
    · have hm := if_n hm c_20
      refine lv_aload_n hx hb dX4_fix_23 rfl (lv_at hl 0 rfl) ?_
      refine va_get (D := gw.1) (ci := 4) (v := .ref (h 503)) (C := RX4) (T := TX4) (N := 4) hx hb hts iX4_fix_X4 hown hK.1 hP 0 rfl rfl 3 (by decide) (hts (.fieldLink RX4 18 "SoundLine$Sheet" "fixed" "[I") (by decide +kernel)) (fun _ h9 => h9) rfl dX4_fix_24 ?_
      refine lv_iload hx hb dX4_fix_27 (lv_at hl 4 rfl) ?_
      refine lv_iconst (v := zi 0) hx hb dX4_fix_29 rfl ?_
      obtain ⟨g_30, hm⟩ := gd_e hm
      obtain ⟨s_fixed_30, e_s_fixed_30, hm⟩ := vl_e hm
      refine z_iast hx hb hK hP hD hS 2 rfl g_30 (by decide) e_s_fixed_30 dX4_fix_30 (fun H locs hP hD hS => ?_)
      have hP : va_P gw.1 vwCl [(zOX4 h s_length), (zA gw (h 502) 36 s_breaks), (zA gw (h 503) 36 s_fixed_30)] H := hP
      have hD : va_D A [(zOX4 h s_length), (zA gw (h 502) 36 s_breaks), (zA gw (h 503) 36 s_fixed_30)] := hD
      obtain ⟨x4_31_v2, e_x4_31_v2, hm⟩ := vl_e hm
      refine lv_iinc (v := zi x4_31_v2) (lv' := [(4, .int (zi x4_31_v2)), (0, .ref (h 4)), (1, .int (zi x1)), (2, .int (zi x2)), (3, .int (zi x3))]) hx hb dX4_fix_31 hl (k := 4) rfl (by rw [e_x4_31_v2]; exact zi_add _ _) (by decide) rfl (fun ls hl => ?_)
      refine lv_goto (tgt := 3) hx hb dX4_fix_34 (by decide) ?_
      cases hm
      exact k0 rfl _ _ _ hP hD hS (lv_sub hl [1, 2, 3, 4, 0] rfl)
set_option maxHeartbeats 4000000 in
theorem l_X4_fix_3 (F : zF p s m args meth c A gw cX4_fix 5 none wsX4_fix yX4_fix) (h : Nat → Nat)  (x1 : Int) (x2 : Int) (x3 : Int) (s_length : Int) (s_breaks : Nat → Int) (n : Nat) (a : Int × (Nat → Int)) (u : Nat × (Int × (Nat → Int))) (hm : zloop (fun a => m_X4_fix_3 x1 x2 x3 a.1 s_length s_breaks a.2) n a = some u) (k1 : u.1 = 1 → ∀ (H : Heap) (locs : List Loc) (ls : Array Slot), va_P gw.1 vwCl [(zOX4 h s_length), (zA gw (h 502) 36 s_breaks), (zA gw (h 503) 36 (u.2.2))] H → va_D A [(zOX4 h s_length), (zA gw (h 502) 36 s_breaks), (zA gw (h 503) 36 (u.2.2))] → va_S A s.heap H locs → lv_has ls 5 [(0, .ref (h 4)), (1, .int (zi x1)), (2, .int (zi x2)), (3, .int (zi x3))] → W p l e rmX4_fix s m args below meth c H locs 0 0 Q (F0 m 37 ls [])) (H : Heap) (locs : List Loc) (ls : Array Slot) (hP : va_P gw.1 vwCl [(zOX4 h s_length), (zA gw (h 502) 36 s_breaks), (zA gw (h 503) 36 (a.2))] H) (hD : va_D A [(zOX4 h s_length), (zA gw (h 502) 36 s_breaks), (zA gw (h 503) 36 (a.2))]) (hS : va_S A s.heap H locs) (hl : lv_has ls 5 [(0, .ref (h 4)), (1, .int (zi x1)), (2, .int (zi x2)), (3, .int (zi x3)), (4, .int (zi (a.1)))]) : W p l e rmX4_fix s m args below meth c H locs 0 0 Q (F0 m 3 ls []) := by
  refine zloop_ind (P := fun a => ∀ (H : Heap) (locs : List Loc) (ls : Array Slot), va_P gw.1 vwCl [(zOX4 h s_length), (zA gw (h 502) 36 s_breaks), (zA gw (h 503) 36 (a.2))] H → va_D A [(zOX4 h s_length), (zA gw (h 502) 36 s_breaks), (zA gw (h 503) 36 (a.2))] → va_S A s.heap H locs → lv_has ls 5 [(0, .ref (h 4)), (1, .int (zi x1)), (2, .int (zi x2)), (3, .int (zi x3)), (4, .int (zi (a.1)))] → W p l e rmX4_fix s m args below meth c H locs 0 0 Q (F0 m 3 ls [])) (K := fun w => (w.1 = 1 → ∀ (H : Heap) (locs : List Loc) (ls : Array Slot), va_P gw.1 vwCl [(zOX4 h s_length), (zA gw (h 502) 36 s_breaks), (zA gw (h 503) 36 (w.2.2))] H → va_D A [(zOX4 h s_length), (zA gw (h 502) 36 s_breaks), (zA gw (h 503) 36 (w.2.2))] → va_S A s.heap H locs → lv_has ls 5 [(0, .ref (h 4)), (1, .int (zi x1)), (2, .int (zi x2)), (3, .int (zi x3))] → W p l e rmX4_fix s m args below meth c H locs 0 0 Q (F0 m 37 ls []))) (fun a w hb h0 hk H locs ls hP hD hS hl => ?_) n a u hm (fun _ => k1) H locs ls hP hD hS hl
  exact w_X4_fix_3 F h  x1 x2 x3 a.1 s_length s_breaks a.2 w hb H locs ls hP hD hS hl (fun z H locs ls hP hD hS hl => h0 z H locs ls hP hD hS hl) (fun z => (hk (by rw [z]; decide)) z)
def m_X4_fix (x1 : Int) (x2 : Int) (x3 : Int) (s_length : Int) (s_breaks : Nat → Int) (s_fixed : Nat → Int) : Option ((Nat → Int) × (Nat → Int)) :=
  (zloop (fun a => m_X4_fix_3 x1 x2 x3 a.1 s_length s_breaks a.2) FU (0, s_fixed)).bind fun (t_3, x4_3, s_fixed_3) =>
  gd (0 ≤ x1 ∧ x1 < 36) <|
  vl (uz s_fixed_3 (Int.toNat x1) ((x2 * 1024) + x3)) fun s_fixed_48 =>
  (m_X8_fillRange (x1 + 1) x2 2 s_breaks 36).bind fun s_breaks_58 =>
  (m_X4_wantBreak x1 s_length s_breaks_58).bind fun s_breaks_63 =>
  (m_X4_wantBreak x2 s_length s_breaks_63).bind fun s_breaks_68 =>
  some (s_breaks_68, s_fixed_48)
set_option maxHeartbeats 4000000 in
set_option maxRecDepth 100000 in
theorem w_X4_fix (F : zF p s m args meth c A gw cX4_fix 5 none wsX4_fix yX4_fix) (h : Nat → Nat) (x1 : Int) (x2 : Int) (x3 : Int) (s_length : Int) (s_breaks : Nat → Int) (s_fixed : Nat → Int) (u : (Nat → Int) × (Nat → Int)) (hm : m_X4_fix x1 x2 x3 s_length s_breaks s_fixed = some u) (H : Heap) (locs : List Loc) (ls : Array Slot) (hP : va_P gw.1 vwCl [(zOX4 h s_length), (zA gw (h 502) 36 s_breaks), (zA gw (h 503) 36 s_fixed)] H) (hD : va_D A [(zOX4 h s_length), (zA gw (h 502) 36 s_breaks), (zA gw (h 503) 36 s_fixed)]) (hS : va_S A s.heap H locs) (hl : lv_has ls 5 [(0, .ref (h 4)), (1, .int (zi x1)), (2, .int (zi x2)), (3, .int (zi x3))]) : W p l e rmX4_fix s m args below meth c H locs 0 0 (MQ below (zQ gw none [(zOX4 h s_length), (zA gw (h 502) 36 (u.1)), (zA gw (h 503) 36 (u.2))] A) args s 0 0 A) (F0 m 0 ls []) := by
  obtain ⟨hx, hb, hml, hr, hown, hts, hlk, hK, hA, hnm⟩ := id F
  have hown : s.vm.findClass RX4 = some m.cls := hown
  unfold m_X4_fix at hm
  refine lv_iconst (v := zi 0) hx hb dX4_fix_0 rfl ?_
  refine lv_istore (lv' := [(4, .int (zi 0)), (0, .ref (h 4)), (1, .int (zi x1)), (2, .int (zi x2)), (3, .int (zi x3))]) hx hb dX4_fix_1 hl (by decide) rfl (fun ls hl => ?_)
  obtain ⟨u_3, hu_3, hm⟩ := bd_e hm
  obtain ⟨t_3, x4_3, s_fixed_3⟩ := u_3
  refine l_X4_fix_3 F h  x1 x2 x3 s_length s_breaks FU (0, s_fixed) _ hu_3 (fun z_3 H locs ls hP hD hS hl => ?_) _ _ _ hP hD hS (lv_sub hl [1, 2, 3, 4, 0] rfl)
  have hP : va_P gw.1 vwCl [(zOX4 h s_length), (zA gw (h 502) 36 s_breaks), (zA gw (h 503) 36 s_fixed_3)] H := hP
  have hD : va_D A [(zOX4 h s_length), (zA gw (h 502) 36 s_breaks), (zA gw (h 503) 36 s_fixed_3)] := hD
  have hl : lv_has ls 5 [(0, .ref (h 4)), (1, .int (zi x1)), (2, .int (zi x2)), (3, .int (zi x3))] := hl
  refine lv_aload_n hx hb dX4_fix_37 rfl (lv_at hl 0 rfl) ?_
  refine va_get (D := gw.1) (ci := 4) (v := .ref (h 503)) (C := RX4) (T := TX4) (N := 4) hx hb hts iX4_fix_X4 hown hK.1 hP 0 rfl rfl 3 (by decide) (hts (.fieldLink RX4 18 "SoundLine$Sheet" "fixed" "[I") (by decide +kernel)) (fun _ h9 => h9) rfl dX4_fix_38 ?_
  refine lv_iload_n hx hb dX4_fix_41 rfl (lv_at hl 1 rfl) ?_
  refine lv_iload_n hx hb dX4_fix_42 rfl (lv_at hl 2 rfl) ?_
  refine lv_bipush (v := zi 10) hx hb dX4_fix_43 (by decide) ?_
  refine z_ishlk (d := 1024) hx hb (by decide) (by decide) dX4_fix_45 ?_
  refine lv_iload_n hx hb dX4_fix_46 rfl (lv_at hl 3 rfl) ?_
  refine z_iadd hx hb dX4_fix_47 ?_
  obtain ⟨g_48, hm⟩ := gd_e hm
  obtain ⟨s_fixed_48, e_s_fixed_48, hm⟩ := vl_e hm
  refine z_iast hx hb hK hP hD hS 2 rfl g_48 (by decide) e_s_fixed_48 dX4_fix_48 (fun H locs hP hD hS => ?_)
  have hP : va_P gw.1 vwCl [(zOX4 h s_length), (zA gw (h 502) 36 s_breaks), (zA gw (h 503) 36 s_fixed_48)] H := hP
  have hD : va_D A [(zOX4 h s_length), (zA gw (h 502) 36 s_breaks), (zA gw (h 503) 36 s_fixed_48)] := hD
  refine lv_aload_n hx hb dX4_fix_49 rfl (lv_at hl 0 rfl) ?_
  refine va_get (D := gw.1) (ci := 4) (v := .ref (h 502)) (C := RX4) (T := TX4) (N := 4) hx hb hts iX4_fix_X4 hown hK.1 hP 0 rfl rfl 2 (by decide) (hts (.fieldLink RX4 15 "SoundLine$Sheet" "breaks" "[I") (by decide +kernel)) (fun _ h9 => h9) rfl dX4_fix_50 ?_
  refine lv_iload_n hx hb dX4_fix_53 rfl (lv_at hl 1 rfl) ?_
  refine lv_iconst (v := zi 1) hx hb dX4_fix_54 rfl ?_
  refine z_iadd hx hb dX4_fix_55 ?_
  refine lv_iload_n hx hb dX4_fix_56 rfl (lv_at hl 2 rfl) ?_
  refine lv_iconst (v := zi 2) hx hb dX4_fix_57 rfl ?_
  obtain ⟨s_breaks_58, hs_breaks_58, hm⟩ := bd_e hm
  refine z_callSN (As := [.ref (h 502), .int (zi (x1 + 1)), .int (zi x2), .int (zi 2)]) (rest := []) (wr := [(zOX4 h s_length), (zA gw (h 503) 36 s_fixed_48)]) (ws' := [(zOX4 h s_length), (zA gw (h 502) 36 s_breaks_58), (zA gw (h 503) 36 s_fixed_48)]) ⟨hx, hb, hml, hown, hts⟩ (c_X8_fillRange l gw h (h 502) 36 (by decide) (x1 + 1) x2 2 s_breaks s_breaks_58 hs_breaks_58 H.size) ⟨va_cnB 4 hts gX4_fix_X8_fillRange_n44 rfl rfl rfl (hK.2.2 (RX4, 44, yX8_fillRange, RX8) (List.mem_of_getElem? (i := 50) rfl)) (hts (.initialized RX8) (by decide +kernel)) (by decide +kernel) ⟨Nat.le_of_ble_eq_true rfl, Nat.le_of_ble_eq_true rfl⟩, (hts (.static yX8_fillRange) (by decide +kernel)), trivial⟩ hK hP hD hS hA [1] [0, 2] [0, 2, 1] (by decide) rfl rfl (by decide) (by decide) rfl (by decide) rfl hl.1 (Nat.le_of_ble_eq_true rfl) dX4_fix_58 ⟨Nat.zero_le _, Nat.zero_le _⟩ rfl (fun H locs hP hD hS => ?_)
  have hP : va_P gw.1 vwCl [(zOX4 h s_length), (zA gw (h 502) 36 s_breaks_58), (zA gw (h 503) 36 s_fixed_48)] H := hP
  have hD : va_D A [(zOX4 h s_length), (zA gw (h 502) 36 s_breaks_58), (zA gw (h 503) 36 s_fixed_48)] := hD
  refine W.eq (g2 := F0 m 61 ls []) rfl ?_
  refine lv_aload_n hx hb dX4_fix_61 rfl (lv_at hl 0 rfl) ?_
  refine lv_iload_n hx hb dX4_fix_62 rfl (lv_at hl 1 rfl) ?_
  obtain ⟨s_breaks_63, hs_breaks_63, hm⟩ := bd_e hm
  refine z_callV (As := [.int (zi x1)]) (rest := []) (wr := [(zA gw (h 503) 36 s_fixed_48)]) (ws' := [(zOX4 h s_length), (zA gw (h 502) 36 s_breaks_63), (zA gw (h 503) 36 s_fixed_48)]) ⟨hx, hb, hml, hown, hts⟩ (c_X4_wantBreak l gw h x1 s_length s_breaks_58 s_breaks_63 hs_breaks_63 H.size) (cwV 1 hts gX4_fix_X4_wantBreak rfl rfl rfl (by decide +kernel) ⟨Nat.le_of_ble_eq_true rfl, Nat.le_of_ble_eq_true rfl⟩) hK hP hD hS hA [0, 1] [2] [1, 2, 0] (by decide) rfl rfl (by decide) (by decide) rfl (by decide) 0 4 rfl rfl rfl rfl hl.1 (Nat.le_of_ble_eq_true rfl) dX4_fix_63 ⟨Nat.zero_le _, Nat.zero_le _⟩ rfl (fun H locs hP hD hS => ?_)
  have hP : va_P gw.1 vwCl [(zOX4 h s_length), (zA gw (h 502) 36 s_breaks_63), (zA gw (h 503) 36 s_fixed_48)] H := hP
  have hD : va_D A [(zOX4 h s_length), (zA gw (h 502) 36 s_breaks_63), (zA gw (h 503) 36 s_fixed_48)] := hD
  refine W.eq (g2 := F0 m 66 ls []) rfl ?_
  refine lv_aload_n hx hb dX4_fix_66 rfl (lv_at hl 0 rfl) ?_
  refine lv_iload_n hx hb dX4_fix_67 rfl (lv_at hl 2 rfl) ?_
  obtain ⟨s_breaks_68, hs_breaks_68, hm⟩ := bd_e hm
  refine z_callV (As := [.int (zi x2)]) (rest := []) (wr := [(zA gw (h 503) 36 s_fixed_48)]) (ws' := [(zOX4 h s_length), (zA gw (h 502) 36 s_breaks_68), (zA gw (h 503) 36 s_fixed_48)]) ⟨hx, hb, hml, hown, hts⟩ (c_X4_wantBreak l gw h x2 s_length s_breaks_63 s_breaks_68 hs_breaks_68 H.size) (cwV 1 hts gX4_fix_X4_wantBreak rfl rfl rfl (by decide +kernel) ⟨Nat.le_of_ble_eq_true rfl, Nat.le_of_ble_eq_true rfl⟩) hK hP hD hS hA [0, 1] [2] [1, 2, 0] (by decide) rfl rfl (by decide) (by decide) rfl (by decide) 0 4 rfl rfl rfl rfl hl.1 (Nat.le_of_ble_eq_true rfl) dX4_fix_68 ⟨Nat.zero_le _, Nat.zero_le _⟩ rfl (fun H locs hP hD hS => ?_)
  have hP : va_P gw.1 vwCl [(zOX4 h s_length), (zA gw (h 502) 36 s_breaks_68), (zA gw (h 503) 36 s_fixed_48)] H := hP
  have hD : va_D A [(zOX4 h s_length), (zA gw (h 502) 36 s_breaks_68), (zA gw (h 503) 36 s_fixed_48)] := hD
  refine W.eq (g2 := F0 m 71 ls []) rfl ?_
  cases hm
  exact z_vret hx hb hr hlk hP hD hS dX4_fix_71
theorem c_X4_fix (l : Launch) (gw : zG) (h : Nat → Nat) (x1 : Int) (x2 : Int) (x3 : Int) (s_length : Int) (s_breaks : Nat → Int) (s_fixed : Nat → Int) (u : (Nat → Int) × (Nat → Int)) (hm : m_X4_fix x1 x2 x3 s_length s_breaks s_fixed = some u) (sz : Nat) : Met l yX4_fix wsX4_fix rmX4_fix (va_Pc [.ref (h 4), .int (zi x1), .int (zi x2), .int (zi x3)] (zPre gw [(zOX4 h s_length), (zA gw (h 502) 36 s_breaks), (zA gw (h 503) 36 s_fixed)] sz)) (zQ gw none [(zOX4 h s_length), (zA gw (h 502) 36 (u.1)), (zA gw (h 503) 36 (u.2))] (va_A [(zOX4 h s_length), (zA gw (h 502) 36 s_breaks), (zA gw (h 503) 36 s_fixed)] sz)) 0 0 (va_A [(zOX4 h s_length), (zA gw (h 502) 36 s_breaks), (zA gw (h 503) 36 s_fixed)] sz) :=
  z_met (by decide) rfl (Nat.le_of_ble_eq_true rfl) rfl (fun p e s m args below meth c A F hsz ls hl hP hD => w_X4_fix F h x1 x2 x3 s_length s_breaks s_fixed u hm s.heap [] ls hP hD va_S.rf hl)
abbrev rmX4_moveBreak : Room := { frames := 0, cells := 0, slots := 0, locals := 0 }
theorem iX4_moveBreak_X4 : ∀ w ∈ wsX40, w ∈ wsX4_moveBreak := by decide +kernel
def m_X4_moveBreak_81 (x1 : Int) (x2 : Int) (x3 : Int) (s_breaks : Nat → Int) (s_fixed : Nat → Int) : Option (Nat × (Int × (Nat → Int))) :=
  gd (0 ≤ x3 ∧ x3 < 36) <|
  vl (uz s_fixed (Int.toNat x3) 0) fun s_fixed_87 =>
  vl (x3 + 1) fun x3_88_v3 =>
  some (0, (x3_88_v3, s_fixed_87))
set_option maxHeartbeats 4000000 in
set_option maxRecDepth 100000 in
theorem w_X4_moveBreak_81 (F : zF p s m args meth c A gw cX4_moveBreak 7 none wsX4_moveBreak yX4_moveBreak) (h : Nat → Nat) (s_length : Int) (x1 : Int) (x2 : Int) (x3 : Int) (s_breaks : Nat → Int) (s_fixed : Nat → Int) (u : Nat × (Int × (Nat → Int))) (hm : m_X4_moveBreak_81 x1 x2 x3 s_breaks s_fixed = some u) (H : Heap) (locs : List Loc) (ls : Array Slot) (hP : va_P gw.1 vwCl [(zOX4 h s_length), (zA gw (h 502) 36 s_breaks), (zA gw (h 503) 36 s_fixed)] H) (hD : va_D A [(zOX4 h s_length), (zA gw (h 502) 36 s_breaks), (zA gw (h 503) 36 s_fixed)]) (hS : va_S A s.heap H locs) (hl : lv_has ls 7 [(0, .ref (h 4)), (1, .int (zi x1)), (2, .int (zi x2)), (3, .int (zi x3))]) (k0 : u.1 = 0 → ∀ (H : Heap) (locs : List Loc) (ls : Array Slot), va_P gw.1 vwCl [(zOX4 h s_length), (zA gw (h 502) 36 s_breaks), (zA gw (h 503) 36 (u.2.2))] H → va_D A [(zOX4 h s_length), (zA gw (h 502) 36 s_breaks), (zA gw (h 503) 36 (u.2.2))] → va_S A s.heap H locs → lv_has ls 7 [(0, .ref (h 4)), (1, .int (zi x1)), (2, .int (zi x2)), (3, .int (zi (u.2.1)))] → W p l e rmX4_moveBreak s m args below meth c H locs 0 0 Q (F0 m 9 ls [])) (k1 : u.1 = 1 → ∀ (H : Heap) (locs : List Loc) (ls : Array Slot), va_P gw.1 vwCl [(zOX4 h s_length), (zA gw (h 502) 36 s_breaks), (zA gw (h 503) 36 (u.2.2))] H → va_D A [(zOX4 h s_length), (zA gw (h 502) 36 s_breaks), (zA gw (h 503) 36 (u.2.2))] → va_S A s.heap H locs → lv_has ls 7 [] → W p l e rmX4_moveBreak s m args below meth c H locs 0 0 Q (F0 m 94 ls [])) : W p l e rmX4_moveBreak s m args below meth c H locs 0 0 Q (F0 m 81 ls []) := by
  obtain ⟨hx, hb, hml, hr, hown, hts, hlk, hK, hA, hnm⟩ := id F
  have hown : s.vm.findClass RX4 = some m.cls := hown
  unfold m_X4_moveBreak_81 at hm
  refine lv_aload_n hx hb dX4_moveBreak_81 rfl (lv_at hl 0 rfl) ?_
  refine va_get (D := gw.1) (ci := 4) (v := .ref (h 503)) (C := RX4) (T := TX4) (N := 4) hx hb hts iX4_moveBreak_X4 hown hK.1 hP 0 rfl rfl 3 (by decide) (hts (.fieldLink RX4 18 "SoundLine$Sheet" "fixed" "[I") (by decide +kernel)) (fun _ h9 => h9) rfl dX4_moveBreak_82 ?_
  refine lv_iload_n hx hb dX4_moveBreak_85 rfl (lv_at hl 3 rfl) ?_
  refine lv_iconst (v := zi 0) hx hb dX4_moveBreak_86 rfl ?_
  obtain ⟨g_87, hm⟩ := gd_e hm
  obtain ⟨s_fixed_87, e_s_fixed_87, hm⟩ := vl_e hm
  refine z_iast hx hb hK hP hD hS 2 rfl g_87 (by decide) e_s_fixed_87 dX4_moveBreak_87 (fun H locs hP hD hS => ?_)
  have hP : va_P gw.1 vwCl [(zOX4 h s_length), (zA gw (h 502) 36 s_breaks), (zA gw (h 503) 36 s_fixed_87)] H := hP
  have hD : va_D A [(zOX4 h s_length), (zA gw (h 502) 36 s_breaks), (zA gw (h 503) 36 s_fixed_87)] := hD
  obtain ⟨x3_88_v3, e_x3_88_v3, hm⟩ := vl_e hm
  refine lv_iinc (v := zi x3_88_v3) (lv' := [(3, .int (zi x3_88_v3)), (0, .ref (h 4)), (1, .int (zi x1)), (2, .int (zi x2))]) hx hb dX4_moveBreak_88 hl (k := 3) rfl (by rw [e_x3_88_v3]; exact zi_add _ _) (by decide) rfl (fun ls hl => ?_)
  refine lv_goto (tgt := 9) hx hb dX4_moveBreak_91 (by decide) ?_
  cases hm
  exact k0 rfl _ _ _ hP hD hS (lv_sub hl [1, 2, 3, 0] rfl)
def m_X4_moveBreak_71 (x1 : Int) (x2 : Int) (x3 : Int) (x6 : Int) (s_breaks : Nat → Int) (s_fixed : Nat → Int) : Option (Nat × (Int × (Nat → Int))) :=
  gd (inI x6) <|
  if x6 = 0 then
    vl (x3 + 1) fun x3_88 =>
    some (0, (x3_88, s_fixed))
  else
    gd (inI x2) <|
    if x2 = 1 then
      vl (x3 + 1) fun x3_88_v2 =>
      some (0, (x3_88_v2, s_fixed))
    else
      m_X4_moveBreak_81 x1 x2 x3 s_breaks s_fixed
set_option maxHeartbeats 4000000 in
set_option maxRecDepth 100000 in
theorem w_X4_moveBreak_71 (F : zF p s m args meth c A gw cX4_moveBreak 7 none wsX4_moveBreak yX4_moveBreak) (h : Nat → Nat) (s_length : Int) (x1 : Int) (x2 : Int) (x3 : Int) (x6 : Int) (s_breaks : Nat → Int) (s_fixed : Nat → Int) (u : Nat × (Int × (Nat → Int))) (hm : m_X4_moveBreak_71 x1 x2 x3 x6 s_breaks s_fixed = some u) (H : Heap) (locs : List Loc) (ls : Array Slot) (hP : va_P gw.1 vwCl [(zOX4 h s_length), (zA gw (h 502) 36 s_breaks), (zA gw (h 503) 36 s_fixed)] H) (hD : va_D A [(zOX4 h s_length), (zA gw (h 502) 36 s_breaks), (zA gw (h 503) 36 s_fixed)]) (hS : va_S A s.heap H locs) (hl : lv_has ls 7 [(0, .ref (h 4)), (1, .int (zi x1)), (2, .int (zi x2)), (3, .int (zi x3)), (6, .int (zi x6))]) (k0 : u.1 = 0 → ∀ (H : Heap) (locs : List Loc) (ls : Array Slot), va_P gw.1 vwCl [(zOX4 h s_length), (zA gw (h 502) 36 s_breaks), (zA gw (h 503) 36 (u.2.2))] H → va_D A [(zOX4 h s_length), (zA gw (h 502) 36 s_breaks), (zA gw (h 503) 36 (u.2.2))] → va_S A s.heap H locs → lv_has ls 7 [(0, .ref (h 4)), (1, .int (zi x1)), (2, .int (zi x2)), (3, .int (zi (u.2.1)))] → W p l e rmX4_moveBreak s m args below meth c H locs 0 0 Q (F0 m 9 ls [])) (k1 : u.1 = 1 → ∀ (H : Heap) (locs : List Loc) (ls : Array Slot), va_P gw.1 vwCl [(zOX4 h s_length), (zA gw (h 502) 36 s_breaks), (zA gw (h 503) 36 (u.2.2))] H → va_D A [(zOX4 h s_length), (zA gw (h 502) 36 s_breaks), (zA gw (h 503) 36 (u.2.2))] → va_S A s.heap H locs → lv_has ls 7 [] → W p l e rmX4_moveBreak s m args below meth c H locs 0 0 Q (F0 m 94 ls [])) : W p l e rmX4_moveBreak s m args below meth c H locs 0 0 Q (F0 m 71 ls []) := by
  obtain ⟨hx, hb, hml, hr, hown, hts, hlk, hK, hA, hnm⟩ := id F
  have hown : s.vm.findClass RX4 = some m.cls := hown
  unfold m_X4_moveBreak_71 at hm
  refine lv_iload hx hb dX4_moveBreak_71 (lv_at hl 4 rfl) ?_
  obtain ⟨g_73, hm⟩ := gd_e hm
  refine z_if_eq (tgt := 88) hx hb g_73 dX4_moveBreak_73 (by decide) (fun c_73 => ?_) (fun c_73 => ?_)
  · have hm := if_p hm c_73
    obtain ⟨x3_88, e_x3_88, hm⟩ := vl_e hm
    refine lv_iinc (v := zi x3_88) (lv' := [(3, .int (zi x3_88)), (0, .ref (h 4)), (1, .int (zi x1)), (2, .int (zi x2)), (6, .int (zi x6))]) hx hb dX4_moveBreak_88 hl (k := 3) rfl (by rw [e_x3_88]; exact zi_add _ _) (by decide) rfl (fun ls hl => ?_)
    refine lv_goto (tgt := 9) hx hb dX4_moveBreak_91 (by decide) ?_
    cases hm
    exact k0 rfl _ _ _ hP hD hS (lv_sub hl [1, 2, 3, 0] rfl)
  · have hm := if_n hm c_73
    refine lv_iload_n hx hb dX4_moveBreak_76 rfl (lv_at hl 2 rfl) ?_
    refine lv_iconst (v := zi 1) hx hb dX4_moveBreak_77 rfl ?_
    obtain ⟨g_78, hm⟩ := gd_e hm
    refine z_icmp_eq (tgt := 88) hx hb g_78 (by decide) dX4_moveBreak_78 (by decide) (fun c_78 => ?_) (fun c_78 => ?_)
    · have hm := if_p hm c_78
      obtain ⟨x3_88_v2, e_x3_88_v2, hm⟩ := vl_e hm
      refine lv_iinc (v := zi x3_88_v2) (lv' := [(3, .int (zi x3_88_v2)), (0, .ref (h 4)), (1, .int (zi x1)), (2, .int (zi x2)), (6, .int (zi x6))]) hx hb dX4_moveBreak_88 hl (k := 3) rfl (by rw [e_x3_88_v2]; exact zi_add _ _) (by decide) rfl (fun ls hl => ?_)
      refine lv_goto (tgt := 9) hx hb dX4_moveBreak_91 (by decide) ?_
      cases hm
      exact k0 rfl _ _ _ hP hD hS (lv_sub hl [1, 2, 3, 0] rfl)
    · have hm := if_n hm c_78
      exact w_X4_moveBreak_81 F h s_length x1 x2 x3 s_breaks s_fixed _ hm _ _ _ hP hD hS (lv_sub hl [0, 1, 2, 3] rfl) k0 k1
def m_X4_moveBreak_59 (x1 : Int) (x2 : Int) (x3 : Int) (x5 : Int) (t0 : Int) (s_breaks : Nat → Int) (s_fixed : Nat → Int) : Option (Nat × (Int × (Nat → Int))) :=
  gd (inI x5) <|
  if x5 = 0 then
    m_X4_moveBreak_71 x1 x2 x3 t0 s_breaks s_fixed
  else
    gd (inI x2) <|
    if x2 = 2 then
      m_X4_moveBreak_71 x1 x2 x3 t0 s_breaks s_fixed
    else
      m_X4_moveBreak_81 x1 x2 x3 s_breaks s_fixed
set_option maxHeartbeats 4000000 in
set_option maxRecDepth 100000 in
theorem w_X4_moveBreak_59 (F : zF p s m args meth c A gw cX4_moveBreak 7 none wsX4_moveBreak yX4_moveBreak) (h : Nat → Nat) (s_length : Int) (x1 : Int) (x2 : Int) (x3 : Int) (x5 : Int) (t0 : Int) (s_breaks : Nat → Int) (s_fixed : Nat → Int) (u : Nat × (Int × (Nat → Int))) (hm : m_X4_moveBreak_59 x1 x2 x3 x5 t0 s_breaks s_fixed = some u) (H : Heap) (locs : List Loc) (ls : Array Slot) (hP : va_P gw.1 vwCl [(zOX4 h s_length), (zA gw (h 502) 36 s_breaks), (zA gw (h 503) 36 s_fixed)] H) (hD : va_D A [(zOX4 h s_length), (zA gw (h 502) 36 s_breaks), (zA gw (h 503) 36 s_fixed)]) (hS : va_S A s.heap H locs) (hl : lv_has ls 7 [(0, .ref (h 4)), (1, .int (zi x1)), (2, .int (zi x2)), (3, .int (zi x3)), (5, .int (zi x5))]) (k0 : u.1 = 0 → ∀ (H : Heap) (locs : List Loc) (ls : Array Slot), va_P gw.1 vwCl [(zOX4 h s_length), (zA gw (h 502) 36 s_breaks), (zA gw (h 503) 36 (u.2.2))] H → va_D A [(zOX4 h s_length), (zA gw (h 502) 36 s_breaks), (zA gw (h 503) 36 (u.2.2))] → va_S A s.heap H locs → lv_has ls 7 [(0, .ref (h 4)), (1, .int (zi x1)), (2, .int (zi x2)), (3, .int (zi (u.2.1)))] → W p l e rmX4_moveBreak s m args below meth c H locs 0 0 Q (F0 m 9 ls [])) (k1 : u.1 = 1 → ∀ (H : Heap) (locs : List Loc) (ls : Array Slot), va_P gw.1 vwCl [(zOX4 h s_length), (zA gw (h 502) 36 s_breaks), (zA gw (h 503) 36 (u.2.2))] H → va_D A [(zOX4 h s_length), (zA gw (h 502) 36 s_breaks), (zA gw (h 503) 36 (u.2.2))] → va_S A s.heap H locs → lv_has ls 7 [] → W p l e rmX4_moveBreak s m args below meth c H locs 0 0 Q (F0 m 94 ls [])) : W p l e rmX4_moveBreak s m args below meth c H locs 0 0 Q (F0 m 59 ls [.int (zi t0)]) := by
  obtain ⟨hx, hb, hml, hr, hown, hts, hlk, hK, hA, hnm⟩ := id F
  have hown : s.vm.findClass RX4 = some m.cls := hown
  unfold m_X4_moveBreak_59 at hm
  refine lv_istore (lv' := [(6, .int (zi t0)), (0, .ref (h 4)), (1, .int (zi x1)), (2, .int (zi x2)), (3, .int (zi x3)), (5, .int (zi x5))]) hx hb dX4_moveBreak_59 hl (by decide) rfl (fun ls hl => ?_)
  refine lv_iload hx hb dX4_moveBreak_61 (lv_at hl 5 rfl) ?_
  obtain ⟨g_63, hm⟩ := gd_e hm
  refine z_if_eq (tgt := 71) hx hb g_63 dX4_moveBreak_63 (by decide) (fun c_63 => ?_) (fun c_63 => ?_)
  · have hm := if_p hm c_63
    exact w_X4_moveBreak_71 F h s_length x1 x2 x3 t0 s_breaks s_fixed _ hm _ _ _ hP hD hS (lv_sub hl [1, 2, 3, 4, 0] rfl) k0 k1
  · have hm := if_n hm c_63
    refine lv_iload_n hx hb dX4_moveBreak_66 rfl (lv_at hl 3 rfl) ?_
    refine lv_iconst (v := zi 2) hx hb dX4_moveBreak_67 rfl ?_
    obtain ⟨g_68, hm⟩ := gd_e hm
    refine z_icmp_ne (tgt := 81) hx hb g_68 (by decide) dX4_moveBreak_68 (by decide) (fun c_68 => ?_) (fun c_68 => ?_)
    · have hm := if_n hm c_68
      exact w_X4_moveBreak_81 F h s_length x1 x2 x3 s_breaks s_fixed _ hm _ _ _ hP hD hS (lv_sub hl [1, 2, 3, 4] rfl) k0 k1
    · have hm := if_p hm c_68
      exact w_X4_moveBreak_71 F h s_length x1 x2 x3 t0 s_breaks s_fixed _ hm _ _ _ hP hD hS (lv_sub hl [1, 2, 3, 4, 0] rfl) k0 k1
def m_X4_moveBreak_54 (x1 : Int) (x2 : Int) (x3 : Int) (x5 : Int) (s_breaks : Nat → Int) (s_fixed : Nat → Int) : Option (Nat × (Int × (Nat → Int))) :=
  m_X4_moveBreak_59 x1 x2 x3 x5 1 s_breaks s_fixed
set_option maxHeartbeats 4000000 in
set_option maxRecDepth 100000 in
theorem w_X4_moveBreak_54 (F : zF p s m args meth c A gw cX4_moveBreak 7 none wsX4_moveBreak yX4_moveBreak) (h : Nat → Nat) (s_length : Int) (x1 : Int) (x2 : Int) (x3 : Int) (x5 : Int) (s_breaks : Nat → Int) (s_fixed : Nat → Int) (u : Nat × (Int × (Nat → Int))) (hm : m_X4_moveBreak_54 x1 x2 x3 x5 s_breaks s_fixed = some u) (H : Heap) (locs : List Loc) (ls : Array Slot) (hP : va_P gw.1 vwCl [(zOX4 h s_length), (zA gw (h 502) 36 s_breaks), (zA gw (h 503) 36 s_fixed)] H) (hD : va_D A [(zOX4 h s_length), (zA gw (h 502) 36 s_breaks), (zA gw (h 503) 36 s_fixed)]) (hS : va_S A s.heap H locs) (hl : lv_has ls 7 [(0, .ref (h 4)), (1, .int (zi x1)), (2, .int (zi x2)), (3, .int (zi x3)), (5, .int (zi x5))]) (k0 : u.1 = 0 → ∀ (H : Heap) (locs : List Loc) (ls : Array Slot), va_P gw.1 vwCl [(zOX4 h s_length), (zA gw (h 502) 36 s_breaks), (zA gw (h 503) 36 (u.2.2))] H → va_D A [(zOX4 h s_length), (zA gw (h 502) 36 s_breaks), (zA gw (h 503) 36 (u.2.2))] → va_S A s.heap H locs → lv_has ls 7 [(0, .ref (h 4)), (1, .int (zi x1)), (2, .int (zi x2)), (3, .int (zi (u.2.1)))] → W p l e rmX4_moveBreak s m args below meth c H locs 0 0 Q (F0 m 9 ls [])) (k1 : u.1 = 1 → ∀ (H : Heap) (locs : List Loc) (ls : Array Slot), va_P gw.1 vwCl [(zOX4 h s_length), (zA gw (h 502) 36 s_breaks), (zA gw (h 503) 36 (u.2.2))] H → va_D A [(zOX4 h s_length), (zA gw (h 502) 36 s_breaks), (zA gw (h 503) 36 (u.2.2))] → va_S A s.heap H locs → lv_has ls 7 [] → W p l e rmX4_moveBreak s m args below meth c H locs 0 0 Q (F0 m 94 ls [])) : W p l e rmX4_moveBreak s m args below meth c H locs 0 0 Q (F0 m 54 ls []) := by
  obtain ⟨hx, hb, hml, hr, hown, hts, hlk, hK, hA, hnm⟩ := id F
  have hown : s.vm.findClass RX4 = some m.cls := hown
  unfold m_X4_moveBreak_54 at hm
  refine lv_iconst (v := zi 1) hx hb dX4_moveBreak_54 rfl ?_
  refine lv_goto (tgt := 59) hx hb dX4_moveBreak_55 (by decide) ?_
  exact w_X4_moveBreak_59 F h s_length x1 x2 x3 x5 1 s_breaks s_fixed _ hm _ _ _ hP hD hS hl k0 k1
def m_X4_moveBreak_41 (x1 : Int) (x2 : Int) (x3 : Int) (x4 : Int) (t0 : Int) (s_breaks : Nat → Int) (s_fixed : Nat → Int) : Option (Nat × (Int × (Nat → Int))) :=
  gd (inI x3) <|
  gd (inI x1) <|
  if x3 = x1 then
    m_X4_moveBreak_54 x1 x2 x3 t0 s_breaks s_fixed
  else
    gd (inI x4) <|
    if x4 = x1 then
      m_X4_moveBreak_54 x1 x2 x3 t0 s_breaks s_fixed
    else
      m_X4_moveBreak_59 x1 x2 x3 t0 0 s_breaks s_fixed
set_option maxHeartbeats 4000000 in
set_option maxRecDepth 100000 in
theorem w_X4_moveBreak_41 (F : zF p s m args meth c A gw cX4_moveBreak 7 none wsX4_moveBreak yX4_moveBreak) (h : Nat → Nat) (s_length : Int) (x1 : Int) (x2 : Int) (x3 : Int) (x4 : Int) (t0 : Int) (s_breaks : Nat → Int) (s_fixed : Nat → Int) (u : Nat × (Int × (Nat → Int))) (hm : m_X4_moveBreak_41 x1 x2 x3 x4 t0 s_breaks s_fixed = some u) (H : Heap) (locs : List Loc) (ls : Array Slot) (hP : va_P gw.1 vwCl [(zOX4 h s_length), (zA gw (h 502) 36 s_breaks), (zA gw (h 503) 36 s_fixed)] H) (hD : va_D A [(zOX4 h s_length), (zA gw (h 502) 36 s_breaks), (zA gw (h 503) 36 s_fixed)]) (hS : va_S A s.heap H locs) (hl : lv_has ls 7 [(0, .ref (h 4)), (1, .int (zi x1)), (2, .int (zi x2)), (3, .int (zi x3)), (4, .int (zi x4))]) (k0 : u.1 = 0 → ∀ (H : Heap) (locs : List Loc) (ls : Array Slot), va_P gw.1 vwCl [(zOX4 h s_length), (zA gw (h 502) 36 s_breaks), (zA gw (h 503) 36 (u.2.2))] H → va_D A [(zOX4 h s_length), (zA gw (h 502) 36 s_breaks), (zA gw (h 503) 36 (u.2.2))] → va_S A s.heap H locs → lv_has ls 7 [(0, .ref (h 4)), (1, .int (zi x1)), (2, .int (zi x2)), (3, .int (zi (u.2.1)))] → W p l e rmX4_moveBreak s m args below meth c H locs 0 0 Q (F0 m 9 ls [])) (k1 : u.1 = 1 → ∀ (H : Heap) (locs : List Loc) (ls : Array Slot), va_P gw.1 vwCl [(zOX4 h s_length), (zA gw (h 502) 36 s_breaks), (zA gw (h 503) 36 (u.2.2))] H → va_D A [(zOX4 h s_length), (zA gw (h 502) 36 s_breaks), (zA gw (h 503) 36 (u.2.2))] → va_S A s.heap H locs → lv_has ls 7 [] → W p l e rmX4_moveBreak s m args below meth c H locs 0 0 Q (F0 m 94 ls [])) : W p l e rmX4_moveBreak s m args below meth c H locs 0 0 Q (F0 m 41 ls [.int (zi t0)]) := by
  obtain ⟨hx, hb, hml, hr, hown, hts, hlk, hK, hA, hnm⟩ := id F
  have hown : s.vm.findClass RX4 = some m.cls := hown
  unfold m_X4_moveBreak_41 at hm
  refine lv_istore (lv' := [(5, .int (zi t0)), (0, .ref (h 4)), (1, .int (zi x1)), (2, .int (zi x2)), (3, .int (zi x3)), (4, .int (zi x4))]) hx hb dX4_moveBreak_41 hl (by decide) rfl (fun ls hl => ?_)
  refine lv_iload_n hx hb dX4_moveBreak_43 rfl (lv_at hl 4 rfl) ?_
  refine lv_iload_n hx hb dX4_moveBreak_44 rfl (lv_at hl 2 rfl) ?_
  obtain ⟨g_45, hm⟩ := gd_e hm
  obtain ⟨g_45_v2, hm⟩ := gd_e hm
  refine z_icmp_eq (tgt := 54) hx hb g_45 g_45_v2 dX4_moveBreak_45 (by decide) (fun c_45 => ?_) (fun c_45 => ?_)
  · have hm := if_p hm c_45
    exact w_X4_moveBreak_54 F h s_length x1 x2 x3 t0 s_breaks s_fixed _ hm _ _ _ hP hD hS (lv_sub hl [1, 2, 3, 4, 0] rfl) k0 k1
  · have hm := if_n hm c_45
    refine lv_iload hx hb dX4_moveBreak_48 (lv_at hl 5 rfl) ?_
    refine lv_iload_n hx hb dX4_moveBreak_50 rfl (lv_at hl 2 rfl) ?_
    obtain ⟨g_51, hm⟩ := gd_e hm
    refine z_icmp_ne (tgt := 58) hx hb g_51 g_45_v2 dX4_moveBreak_51 (by decide) (fun c_51 => ?_) (fun c_51 => ?_)
    · have hm := if_n hm c_51
      refine lv_iconst (v := zi 0) hx hb dX4_moveBreak_58 rfl ?_
      exact w_X4_moveBreak_59 F h s_length x1 x2 x3 t0 0 s_breaks s_fixed _ hm _ _ _ hP hD hS (lv_sub hl [1, 2, 3, 4, 0] rfl) k0 k1
    · have hm := if_p hm c_51
      exact w_X4_moveBreak_54 F h s_length x1 x2 x3 t0 s_breaks s_fixed _ hm _ _ _ hP hD hS (lv_sub hl [1, 2, 3, 4, 0] rfl) k0 k1
def m_X4_moveBreak_40 (x1 : Int) (x2 : Int) (x3 : Int) (x4 : Int) (s_breaks : Nat → Int) (s_fixed : Nat → Int) : Option (Nat × (Int × (Nat → Int))) :=
  m_X4_moveBreak_41 x1 x2 x3 x4 0 s_breaks s_fixed
set_option maxHeartbeats 4000000 in
set_option maxRecDepth 100000 in
theorem w_X4_moveBreak_40 (F : zF p s m args meth c A gw cX4_moveBreak 7 none wsX4_moveBreak yX4_moveBreak) (h : Nat → Nat) (s_length : Int) (x1 : Int) (x2 : Int) (x3 : Int) (x4 : Int) (s_breaks : Nat → Int) (s_fixed : Nat → Int) (u : Nat × (Int × (Nat → Int))) (hm : m_X4_moveBreak_40 x1 x2 x3 x4 s_breaks s_fixed = some u) (H : Heap) (locs : List Loc) (ls : Array Slot) (hP : va_P gw.1 vwCl [(zOX4 h s_length), (zA gw (h 502) 36 s_breaks), (zA gw (h 503) 36 s_fixed)] H) (hD : va_D A [(zOX4 h s_length), (zA gw (h 502) 36 s_breaks), (zA gw (h 503) 36 s_fixed)]) (hS : va_S A s.heap H locs) (hl : lv_has ls 7 [(0, .ref (h 4)), (1, .int (zi x1)), (2, .int (zi x2)), (3, .int (zi x3)), (4, .int (zi x4))]) (k0 : u.1 = 0 → ∀ (H : Heap) (locs : List Loc) (ls : Array Slot), va_P gw.1 vwCl [(zOX4 h s_length), (zA gw (h 502) 36 s_breaks), (zA gw (h 503) 36 (u.2.2))] H → va_D A [(zOX4 h s_length), (zA gw (h 502) 36 s_breaks), (zA gw (h 503) 36 (u.2.2))] → va_S A s.heap H locs → lv_has ls 7 [(0, .ref (h 4)), (1, .int (zi x1)), (2, .int (zi x2)), (3, .int (zi (u.2.1)))] → W p l e rmX4_moveBreak s m args below meth c H locs 0 0 Q (F0 m 9 ls [])) (k1 : u.1 = 1 → ∀ (H : Heap) (locs : List Loc) (ls : Array Slot), va_P gw.1 vwCl [(zOX4 h s_length), (zA gw (h 502) 36 s_breaks), (zA gw (h 503) 36 (u.2.2))] H → va_D A [(zOX4 h s_length), (zA gw (h 502) 36 s_breaks), (zA gw (h 503) 36 (u.2.2))] → va_S A s.heap H locs → lv_has ls 7 [] → W p l e rmX4_moveBreak s m args below meth c H locs 0 0 Q (F0 m 94 ls [])) : W p l e rmX4_moveBreak s m args below meth c H locs 0 0 Q (F0 m 40 ls []) := by
  obtain ⟨hx, hb, hml, hr, hown, hts, hlk, hK, hA, hnm⟩ := id F
  have hown : s.vm.findClass RX4 = some m.cls := hown
  unfold m_X4_moveBreak_40 at hm
  refine lv_iconst (v := zi 0) hx hb dX4_moveBreak_40 rfl ?_
  exact w_X4_moveBreak_41 F h s_length x1 x2 x3 x4 0 s_breaks s_fixed _ hm _ _ _ hP hD hS hl k0 k1
def m_X4_moveBreak_9 (x1 : Int) (x2 : Int) (x3 : Int) (s_breaks : Nat → Int) (s_fixed : Nat → Int) : Option (Nat × (Int × (Nat → Int))) :=
  gd (inI x3) <|
  gd (inI x1) <|
  if x1 < x3 then
    some (1, (x3, s_fixed))
  else
    gd (0 ≤ x3 ∧ x3 < 36) <|
    gd (inI (s_fixed (Int.toNat x3))) <|
    vl ((s_fixed (Int.toNat x3)) / 1024) fun x4_23 =>
    if x1 ≤ x3 then
      m_X4_moveBreak_40 x1 x2 x3 x4_23 s_breaks s_fixed
    else
      gd (inI x4_23) <|
      if x4_23 ≤ x1 then
        m_X4_moveBreak_40 x1 x2 x3 x4_23 s_breaks s_fixed
      else
        m_X4_moveBreak_41 x1 x2 x3 x4_23 1 s_breaks s_fixed
set_option maxHeartbeats 4000000 in
set_option maxRecDepth 100000 in
theorem w_X4_moveBreak_9 (F : zF p s m args meth c A gw cX4_moveBreak 7 none wsX4_moveBreak yX4_moveBreak) (h : Nat → Nat) (s_length : Int)  (x1 : Int) (x2 : Int) (x3 : Int) (s_breaks : Nat → Int) (s_fixed : Nat → Int) (u : Nat × (Int × (Nat → Int))) (hm : m_X4_moveBreak_9 x1 x2 x3 s_breaks s_fixed = some u) (H : Heap) (locs : List Loc) (ls : Array Slot) (hP : va_P gw.1 vwCl [(zOX4 h s_length), (zA gw (h 502) 36 s_breaks), (zA gw (h 503) 36 s_fixed)] H) (hD : va_D A [(zOX4 h s_length), (zA gw (h 502) 36 s_breaks), (zA gw (h 503) 36 s_fixed)]) (hS : va_S A s.heap H locs) (hl : lv_has ls 7 [(0, .ref (h 4)), (1, .int (zi x1)), (2, .int (zi x2)), (3, .int (zi x3))]) (k0 : u.1 = 0 → ∀ (H : Heap) (locs : List Loc) (ls : Array Slot), va_P gw.1 vwCl [(zOX4 h s_length), (zA gw (h 502) 36 s_breaks), (zA gw (h 503) 36 (u.2.2))] H → va_D A [(zOX4 h s_length), (zA gw (h 502) 36 s_breaks), (zA gw (h 503) 36 (u.2.2))] → va_S A s.heap H locs → lv_has ls 7 [(0, .ref (h 4)), (1, .int (zi x1)), (2, .int (zi x2)), (3, .int (zi (u.2.1)))] → W p l e rmX4_moveBreak s m args below meth c H locs 0 0 Q (F0 m 9 ls [])) (k1 : u.1 = 1 → ∀ (H : Heap) (locs : List Loc) (ls : Array Slot), va_P gw.1 vwCl [(zOX4 h s_length), (zA gw (h 502) 36 s_breaks), (zA gw (h 503) 36 (u.2.2))] H → va_D A [(zOX4 h s_length), (zA gw (h 502) 36 s_breaks), (zA gw (h 503) 36 (u.2.2))] → va_S A s.heap H locs → lv_has ls 7 [] → W p l e rmX4_moveBreak s m args below meth c H locs 0 0 Q (F0 m 94 ls [])) : W p l e rmX4_moveBreak s m args below meth c H locs 0 0 Q (F0 m 9 ls []) := by
  obtain ⟨hx, hb, hml, hr, hown, hts, hlk, hK, hA, hnm⟩ := id F
  have hown : s.vm.findClass RX4 = some m.cls := hown
  unfold m_X4_moveBreak_9 at hm
  refine lv_iload_n hx hb dX4_moveBreak_9 rfl (lv_at hl 3 rfl) ?_
  refine lv_iload_n hx hb dX4_moveBreak_10 rfl (lv_at hl 1 rfl) ?_
  obtain ⟨g_11, hm⟩ := gd_e hm
  obtain ⟨g_11_v2, hm⟩ := gd_e hm
  refine z_icmp_gt (tgt := 94) hx hb g_11 g_11_v2 dX4_moveBreak_11 (by decide) (fun c_11 => ?_) (fun c_11 => ?_)
  · have hm := if_p hm c_11
    cases hm
    exact k1 rfl _ _ _ hP hD hS (lv_sub hl [] rfl)
  · have hm := if_n hm c_11
    refine lv_aload_n hx hb dX4_moveBreak_14 rfl (lv_at hl 0 rfl) ?_
    refine va_get (D := gw.1) (ci := 4) (v := .ref (h 503)) (C := RX4) (T := TX4) (N := 4) hx hb hts iX4_moveBreak_X4 hown hK.1 hP 0 rfl rfl 3 (by decide) (hts (.fieldLink RX4 18 "SoundLine$Sheet" "fixed" "[I") (by decide +kernel)) (fun _ h9 => h9) rfl dX4_moveBreak_15 ?_
    refine lv_iload_n hx hb dX4_moveBreak_18 rfl (lv_at hl 3 rfl) ?_
    obtain ⟨g_19, hm⟩ := gd_e hm
    refine z_iald hx hb hK hP 2 rfl g_19 (by decide) dX4_moveBreak_19 ?_
    refine lv_bipush (v := zi 10) hx hb dX4_moveBreak_20 (by decide) ?_
    obtain ⟨g_22, hm⟩ := gd_e hm
    refine z_ishrk (d := 1024) hx hb g_22 (by decide) (by decide) dX4_moveBreak_22 ?_
    obtain ⟨x4_23, e_x4_23, hm⟩ := vl_e hm
    refine z_top e_x4_23 ?_
    refine lv_istore (lv' := [(4, .int (zi x4_23)), (0, .ref (h 4)), (1, .int (zi x1)), (2, .int (zi x2)), (3, .int (zi x3))]) hx hb dX4_moveBreak_23 hl (by decide) rfl (fun ls hl => ?_)
    refine lv_iload_n hx hb dX4_moveBreak_25 rfl (lv_at hl 4 rfl) ?_
    refine lv_iload_n hx hb dX4_moveBreak_26 rfl (lv_at hl 2 rfl) ?_
    refine z_icmp_ge (tgt := 40) hx hb g_11 g_11_v2 dX4_moveBreak_27 (by decide) (fun c_27 => ?_) (fun c_27 => ?_)
    · have hm := if_p hm c_27
      exact w_X4_moveBreak_40 F h s_length x1 x2 x3 x4_23 s_breaks s_fixed _ hm _ _ _ hP hD hS (lv_sub hl [1, 2, 3, 4, 0] rfl) k0 k1
    · have hm := if_n hm c_27
      refine lv_iload hx hb dX4_moveBreak_30 (lv_at hl 0 rfl) ?_
      refine lv_iload_n hx hb dX4_moveBreak_32 rfl (lv_at hl 2 rfl) ?_
      obtain ⟨g_33, hm⟩ := gd_e hm
      refine z_icmp_le (tgt := 40) hx hb g_33 g_11_v2 dX4_moveBreak_33 (by decide) (fun c_33 => ?_) (fun c_33 => ?_)
      · have hm := if_p hm c_33
        exact w_X4_moveBreak_40 F h s_length x1 x2 x3 x4_23 s_breaks s_fixed _ hm _ _ _ hP hD hS (lv_sub hl [1, 2, 3, 4, 0] rfl) k0 k1
      · have hm := if_n hm c_33
        refine lv_iconst (v := zi 1) hx hb dX4_moveBreak_36 rfl ?_
        refine lv_goto (tgt := 41) hx hb dX4_moveBreak_37 (by decide) ?_
        exact w_X4_moveBreak_41 F h s_length x1 x2 x3 x4_23 1 s_breaks s_fixed _ hm _ _ _ hP hD hS (lv_sub hl [1, 2, 3, 4, 0] rfl) k0 k1
set_option maxHeartbeats 4000000 in
theorem l_X4_moveBreak_9 (F : zF p s m args meth c A gw cX4_moveBreak 7 none wsX4_moveBreak yX4_moveBreak) (h : Nat → Nat) (s_length : Int)  (x1 : Int) (x2 : Int) (s_breaks : Nat → Int) (n : Nat) (a : Int × (Nat → Int)) (u : Nat × (Int × (Nat → Int))) (hm : zloop (fun a => m_X4_moveBreak_9 x1 x2 a.1 s_breaks a.2) n a = some u) (k1 : u.1 = 1 → ∀ (H : Heap) (locs : List Loc) (ls : Array Slot), va_P gw.1 vwCl [(zOX4 h s_length), (zA gw (h 502) 36 s_breaks), (zA gw (h 503) 36 (u.2.2))] H → va_D A [(zOX4 h s_length), (zA gw (h 502) 36 s_breaks), (zA gw (h 503) 36 (u.2.2))] → va_S A s.heap H locs → lv_has ls 7 [] → W p l e rmX4_moveBreak s m args below meth c H locs 0 0 Q (F0 m 94 ls [])) (H : Heap) (locs : List Loc) (ls : Array Slot) (hP : va_P gw.1 vwCl [(zOX4 h s_length), (zA gw (h 502) 36 s_breaks), (zA gw (h 503) 36 (a.2))] H) (hD : va_D A [(zOX4 h s_length), (zA gw (h 502) 36 s_breaks), (zA gw (h 503) 36 (a.2))]) (hS : va_S A s.heap H locs) (hl : lv_has ls 7 [(0, .ref (h 4)), (1, .int (zi x1)), (2, .int (zi x2)), (3, .int (zi (a.1)))]) : W p l e rmX4_moveBreak s m args below meth c H locs 0 0 Q (F0 m 9 ls []) := by
  refine zloop_ind (P := fun a => ∀ (H : Heap) (locs : List Loc) (ls : Array Slot), va_P gw.1 vwCl [(zOX4 h s_length), (zA gw (h 502) 36 s_breaks), (zA gw (h 503) 36 (a.2))] H → va_D A [(zOX4 h s_length), (zA gw (h 502) 36 s_breaks), (zA gw (h 503) 36 (a.2))] → va_S A s.heap H locs → lv_has ls 7 [(0, .ref (h 4)), (1, .int (zi x1)), (2, .int (zi x2)), (3, .int (zi (a.1)))] → W p l e rmX4_moveBreak s m args below meth c H locs 0 0 Q (F0 m 9 ls [])) (K := fun w => (w.1 = 1 → ∀ (H : Heap) (locs : List Loc) (ls : Array Slot), va_P gw.1 vwCl [(zOX4 h s_length), (zA gw (h 502) 36 s_breaks), (zA gw (h 503) 36 (w.2.2))] H → va_D A [(zOX4 h s_length), (zA gw (h 502) 36 s_breaks), (zA gw (h 503) 36 (w.2.2))] → va_S A s.heap H locs → lv_has ls 7 [] → W p l e rmX4_moveBreak s m args below meth c H locs 0 0 Q (F0 m 94 ls []))) (fun a w hb h0 hk H locs ls hP hD hS hl => ?_) n a u hm (fun _ => k1) H locs ls hP hD hS hl
  exact w_X4_moveBreak_9 F h s_length  x1 x2 a.1 s_breaks a.2 w hb H locs ls hP hD hS hl (fun z H locs ls hP hD hS hl => h0 z H locs ls hP hD hS hl) (fun z => (hk (by rw [z]; decide)) z)
def m_X4_moveBreak (x1 : Int) (x2 : Int) (s_breaks : Nat → Int) (s_fixed : Nat → Int) : Option ((Nat → Int) × (Nat → Int)) :=
  gd (0 ≤ x1 ∧ x1 < 36) <|
  vl (uz s_breaks (Int.toNat x1) x2) fun s_breaks_6 =>
  (zloop (fun a => m_X4_moveBreak_9 x1 x2 a.1 s_breaks_6 a.2) FU (0, s_fixed)).bind fun (t_9, x3_9, s_fixed_9) =>
  some (s_breaks_6, s_fixed_9)
set_option maxHeartbeats 4000000 in
set_option maxRecDepth 100000 in
theorem w_X4_moveBreak (F : zF p s m args meth c A gw cX4_moveBreak 7 none wsX4_moveBreak yX4_moveBreak) (h : Nat → Nat) (s_length : Int) (x1 : Int) (x2 : Int) (s_breaks : Nat → Int) (s_fixed : Nat → Int) (u : (Nat → Int) × (Nat → Int)) (hm : m_X4_moveBreak x1 x2 s_breaks s_fixed = some u) (H : Heap) (locs : List Loc) (ls : Array Slot) (hP : va_P gw.1 vwCl [(zOX4 h s_length), (zA gw (h 502) 36 s_breaks), (zA gw (h 503) 36 s_fixed)] H) (hD : va_D A [(zOX4 h s_length), (zA gw (h 502) 36 s_breaks), (zA gw (h 503) 36 s_fixed)]) (hS : va_S A s.heap H locs) (hl : lv_has ls 7 [(0, .ref (h 4)), (1, .int (zi x1)), (2, .int (zi x2))]) : W p l e rmX4_moveBreak s m args below meth c H locs 0 0 (MQ below (zQ gw none [(zOX4 h s_length), (zA gw (h 502) 36 (u.1)), (zA gw (h 503) 36 (u.2))] A) args s 0 0 A) (F0 m 0 ls []) := by
  obtain ⟨hx, hb, hml, hr, hown, hts, hlk, hK, hA, hnm⟩ := id F
  have hown : s.vm.findClass RX4 = some m.cls := hown
  unfold m_X4_moveBreak at hm
  refine lv_aload_n hx hb dX4_moveBreak_0 rfl (lv_at hl 0 rfl) ?_
  refine va_get (D := gw.1) (ci := 4) (v := .ref (h 502)) (C := RX4) (T := TX4) (N := 4) hx hb hts iX4_moveBreak_X4 hown hK.1 hP 0 rfl rfl 2 (by decide) (hts (.fieldLink RX4 15 "SoundLine$Sheet" "breaks" "[I") (by decide +kernel)) (fun _ h9 => h9) rfl dX4_moveBreak_1 ?_
  refine lv_iload_n hx hb dX4_moveBreak_4 rfl (lv_at hl 1 rfl) ?_
  refine lv_iload_n hx hb dX4_moveBreak_5 rfl (lv_at hl 2 rfl) ?_
  obtain ⟨g_6, hm⟩ := gd_e hm
  obtain ⟨s_breaks_6, e_s_breaks_6, hm⟩ := vl_e hm
  refine z_iast hx hb hK hP hD hS 1 rfl g_6 (by decide) e_s_breaks_6 dX4_moveBreak_6 (fun H locs hP hD hS => ?_)
  have hP : va_P gw.1 vwCl [(zOX4 h s_length), (zA gw (h 502) 36 s_breaks_6), (zA gw (h 503) 36 s_fixed)] H := hP
  have hD : va_D A [(zOX4 h s_length), (zA gw (h 502) 36 s_breaks_6), (zA gw (h 503) 36 s_fixed)] := hD
  refine lv_iconst (v := zi 0) hx hb dX4_moveBreak_7 rfl ?_
  refine lv_istore_n (lv' := [(3, .int (zi 0)), (0, .ref (h 4)), (1, .int (zi x1)), (2, .int (zi x2))]) hx hb dX4_moveBreak_8 rfl hl (by decide) rfl (fun ls hl => ?_)
  obtain ⟨u_9, hu_9, hm⟩ := bd_e hm
  obtain ⟨t_9, x3_9, s_fixed_9⟩ := u_9
  refine l_X4_moveBreak_9 F h s_length  x1 x2 s_breaks_6 FU (0, s_fixed) _ hu_9 (fun z_9 H locs ls hP hD hS hl => ?_) _ _ _ hP hD hS (lv_sub hl [1, 2, 3, 0] rfl)
  have hP : va_P gw.1 vwCl [(zOX4 h s_length), (zA gw (h 502) 36 s_breaks_6), (zA gw (h 503) 36 s_fixed_9)] H := hP
  have hD : va_D A [(zOX4 h s_length), (zA gw (h 502) 36 s_breaks_6), (zA gw (h 503) 36 s_fixed_9)] := hD
  have hl : lv_has ls 7 [] := hl
  cases hm
  exact z_vret hx hb hr hlk hP hD hS dX4_moveBreak_94
theorem c_X4_moveBreak (l : Launch) (gw : zG) (h : Nat → Nat) (s_length : Int) (x1 : Int) (x2 : Int) (s_breaks : Nat → Int) (s_fixed : Nat → Int) (u : (Nat → Int) × (Nat → Int)) (hm : m_X4_moveBreak x1 x2 s_breaks s_fixed = some u) (sz : Nat) : Met l yX4_moveBreak wsX4_moveBreak rmX4_moveBreak (va_Pc [.ref (h 4), .int (zi x1), .int (zi x2)] (zPre gw [(zOX4 h s_length), (zA gw (h 502) 36 s_breaks), (zA gw (h 503) 36 s_fixed)] sz)) (zQ gw none [(zOX4 h s_length), (zA gw (h 502) 36 (u.1)), (zA gw (h 503) 36 (u.2))] (va_A [(zOX4 h s_length), (zA gw (h 502) 36 s_breaks), (zA gw (h 503) 36 s_fixed)] sz)) 0 0 (va_A [(zOX4 h s_length), (zA gw (h 502) 36 s_breaks), (zA gw (h 503) 36 s_fixed)] sz) :=
  z_met (by decide) rfl (Nat.le_of_ble_eq_true rfl) rfl (fun p e s m args below meth c A F hsz ls hl hP hD => w_X4_moveBreak F h s_length x1 x2 s_breaks s_fixed u hm s.heap [] ls hP hD va_S.rf hl)
abbrev rmX7_keep : Room := { frames := 1, cells := 0, slots := 0, locals := 26 }
theorem iX7_keep_X7 : ∀ w ∈ wsX70, w ∈ wsX7_keep := by decide +kernel
def m_X7_keep (x2 : Int) (t_entries : Nat → Int) (t_lengths : Nat → Int) (t_kept : Int) (g0 : Nat → Int) (gn0 : Nat) : Option ((Nat → Int) × (Nat → Int) × Int) :=
  gd (0 ≤ (0 : Int) ∧ 0 ≤ (t_kept * 36) ∧ 0 ≤ x2 ∧ (0 : Int) + x2 ≤ (gn0 : Int) ∧ (t_kept * 36) + x2 ≤ 1440) <|
  vl (zcp g0 t_entries (Int.toNat 0) (Int.toNat (t_kept * 36)) (Int.toNat x2)) fun t_entries_14 =>
  gd (0 ≤ t_kept ∧ t_kept < 40) <|
  vl (uz t_lengths (Int.toNat t_kept) x2) fun t_lengths_26 =>
  vl (t_kept + 1) fun t_kept_34 =>
  some (t_entries_14, t_lengths_26, t_kept_34)
set_option maxHeartbeats 4000000 in
set_option maxRecDepth 100000 in
theorem w_X7_keep (F : zF p s m args meth c A gw cX7_keep 3 none wsX7_keep yX7_keep) (h : Nat → Nat) (ga0 : Nat) (gn0 : Nat) (hg0 : gn0 < 2147483648) (x2 : Int) (t_entries : Nat → Int) (t_lengths : Nat → Int) (t_kept : Int) (g0 : Nat → Int) (u : (Nat → Int) × (Nat → Int) × Int) (hm : m_X7_keep x2 t_entries t_lengths t_kept g0 gn0 = some u) (H : Heap) (locs : List Loc) (ls : Array Slot) (hP : va_P gw.1 vwCl [(zOX7 h t_kept), (zA gw (h 800) 1440 t_entries), (zA gw (h 801) 40 t_lengths), (zA gw ga0 gn0 g0)] H) (hD : va_D A [(zOX7 h t_kept), (zA gw (h 800) 1440 t_entries), (zA gw (h 801) 40 t_lengths), (zA gw ga0 gn0 g0)]) (hS : va_S A s.heap H locs) (hl : lv_has ls 3 [(0, .ref (h 7)), (1, .ref ga0), (2, .int (zi x2))]) : W p l e rmX7_keep s m args below meth c H locs 0 0 (MQ below (zQ gw none [(zOX7 h (u.2.2)), (zA gw (h 800) 1440 (u.1)), (zA gw (h 801) 40 (u.2.1)), (zA gw ga0 gn0 g0)] A) args s 0 0 A) (F0 m 0 ls []) := by
  obtain ⟨hx, hb, hml, hr, hown, hts, hlk, hK, hA, hnm⟩ := id F
  have hown : s.vm.findClass RX7 = some m.cls := hown
  unfold m_X7_keep at hm
  refine lv_aload_n hx hb dX7_keep_0 rfl (lv_at hl 1 rfl) ?_
  refine lv_iconst (v := zi 0) hx hb dX7_keep_1 rfl ?_
  refine lv_aload_n hx hb dX7_keep_2 rfl (lv_at hl 0 rfl) ?_
  refine va_get (D := gw.1) (ci := 7) (v := .ref (h 800)) (C := RX7) (T := TX7) (N := 3) hx hb hts iX7_keep_X7 hown hK.1 hP 0 rfl rfl 0 (by decide) (hts (.fieldLink RX7 9 "SoundLine$Taken" "entries" "[I") (by decide +kernel)) (fun _ h9 => h9) rfl dX7_keep_3 ?_
  refine lv_aload_n hx hb dX7_keep_6 rfl (lv_at hl 0 rfl) ?_
  refine va_get (D := gw.1) (ci := 7) (v := .int (zi t_kept)) (C := RX7) (T := TX7) (N := 3) hx hb hts iX7_keep_X7 hown hK.1 hP 0 rfl rfl 2 (by decide) (hts (.fieldLink RX7 18 "SoundLine$Taken" "kept" "I") (by decide +kernel)) (fun _ h9 => h9) rfl dX7_keep_7 ?_
  refine lv_bipush (v := zi 36) hx hb dX7_keep_10 (by decide) ?_
  refine z_imul hx hb dX7_keep_12 ?_
  refine lv_iload_n hx hb dX7_keep_13 rfl (lv_at hl 2 rfl) ?_
  obtain ⟨g_14, hm⟩ := gd_e hm
  obtain ⟨t_entries_14, e_t_entries_14, hm⟩ := vl_e hm
  refine z_copy hx hb (hml.trans hl.1.symm) hown (hts (.methodLink RX7 22 arraycopyName) (by decide +kernel)) (hts (.native arraycopyName) (by decide +kernel)) (hts (.static arraycopyName) (by decide +kernel)) (hts (.initialized "java/lang/System") (by decide +kernel)) hK hP hD hS 3 1 rfl rfl g_14 hg0 (by decide) e_t_entries_14 (Nat.le_of_ble_eq_true rfl) (Nat.le_of_ble_eq_true rfl) dX7_keep_14 (fun H locs hP hD hS => ?_)
  have hP : va_P gw.1 vwCl [(zOX7 h t_kept), (zA gw (h 800) 1440 t_entries_14), (zA gw (h 801) 40 t_lengths), (zA gw ga0 gn0 g0)] H := hP
  have hD : va_D A [(zOX7 h t_kept), (zA gw (h 800) 1440 t_entries_14), (zA gw (h 801) 40 t_lengths), (zA gw ga0 gn0 g0)] := hD
  refine lv_aload_n hx hb dX7_keep_17 rfl (lv_at hl 0 rfl) ?_
  refine va_get (D := gw.1) (ci := 7) (v := .ref (h 801)) (C := RX7) (T := TX7) (N := 3) hx hb hts iX7_keep_X7 hown hK.1 hP 0 rfl rfl 1 (by decide) (hts (.fieldLink RX7 15 "SoundLine$Taken" "lengths" "[I") (by decide +kernel)) (fun _ h9 => h9) rfl dX7_keep_18 ?_
  refine lv_aload_n hx hb dX7_keep_21 rfl (lv_at hl 0 rfl) ?_
  refine va_get (D := gw.1) (ci := 7) (v := .int (zi t_kept)) (C := RX7) (T := TX7) (N := 3) hx hb hts iX7_keep_X7 hown hK.1 hP 0 rfl rfl 2 (by decide) (hts (.fieldLink RX7 18 "SoundLine$Taken" "kept" "I") (by decide +kernel)) (fun _ h9 => h9) rfl dX7_keep_22 ?_
  refine lv_iload_n hx hb dX7_keep_25 rfl (lv_at hl 2 rfl) ?_
  obtain ⟨g_26, hm⟩ := gd_e hm
  obtain ⟨t_lengths_26, e_t_lengths_26, hm⟩ := vl_e hm
  refine z_iast hx hb hK hP hD hS 2 rfl g_26 (by decide) e_t_lengths_26 dX7_keep_26 (fun H locs hP hD hS => ?_)
  have hP : va_P gw.1 vwCl [(zOX7 h t_kept), (zA gw (h 800) 1440 t_entries_14), (zA gw (h 801) 40 t_lengths_26), (zA gw ga0 gn0 g0)] H := hP
  have hD : va_D A [(zOX7 h t_kept), (zA gw (h 800) 1440 t_entries_14), (zA gw (h 801) 40 t_lengths_26), (zA gw ga0 gn0 g0)] := hD
  refine lv_aload_n hx hb dX7_keep_27 rfl (lv_at hl 0 rfl) ?_
  refine lv_dup hx hb dX7_keep_28 rfl ?_
  refine va_get (D := gw.1) (ci := 7) (v := .int (zi t_kept)) (C := RX7) (T := TX7) (N := 3) hx hb hts iX7_keep_X7 hown hK.1 hP 0 rfl rfl 2 (by decide) (hts (.fieldLink RX7 18 "SoundLine$Taken" "kept" "I") (by decide +kernel)) (fun _ h9 => h9) rfl dX7_keep_29 ?_
  refine lv_iconst (v := zi 1) hx hb dX7_keep_32 rfl ?_
  refine z_iadd hx hb dX7_keep_33 ?_
  obtain ⟨t_kept_34, e_t_kept_34, hm⟩ := vl_e hm
  refine z_top e_t_kept_34 ?_
  refine va_put (D := gw.1) (ci := 7) (v := .int (zi t_kept_34)) (ty := .int) (C := RX7) (T := TX7) (N := 3) hx hb hts iX7_keep_X7 tyX7 tyX7_ok nmX7 hown hK.1 hP hD hS 0 rfl rfl 2 (by decide) (hts (.fieldLink RX7 18 "SoundLine$Taken" "kept" "I") (by decide +kernel)) (fun _ h9 => h9) rfl (by decide +kernel) rfl rfl (Nat.le_of_ble_eq_true rfl) dX7_keep_34 (fun H locs hP hD hS => ?_)
  have hP : va_P gw.1 vwCl [(zOX7 h t_kept_34), (zA gw (h 800) 1440 t_entries_14), (zA gw (h 801) 40 t_lengths_26), (zA gw ga0 gn0 g0)] H := hP
  have hD : va_D A [(zOX7 h t_kept_34), (zA gw (h 800) 1440 t_entries_14), (zA gw (h 801) 40 t_lengths_26), (zA gw ga0 gn0 g0)] := hD
  cases hm
  exact z_vret hx hb hr hlk hP hD hS dX7_keep_37
theorem c_X7_keep (l : Launch) (gw : zG) (h : Nat → Nat) (ga0 : Nat) (gn0 : Nat) (hg0 : gn0 < 2147483648) (x2 : Int) (t_entries : Nat → Int) (t_lengths : Nat → Int) (t_kept : Int) (g0 : Nat → Int) (u : (Nat → Int) × (Nat → Int) × Int) (hm : m_X7_keep x2 t_entries t_lengths t_kept g0 gn0 = some u) (sz : Nat) : Met l yX7_keep wsX7_keep rmX7_keep (va_Pc [.ref (h 7), .ref ga0, .int (zi x2)] (zPre gw [(zOX7 h t_kept), (zA gw (h 800) 1440 t_entries), (zA gw (h 801) 40 t_lengths), (zA gw ga0 gn0 g0)] sz)) (zQ gw none [(zOX7 h (u.2.2)), (zA gw (h 800) 1440 (u.1)), (zA gw (h 801) 40 (u.2.1)), (zA gw ga0 gn0 g0)] (va_A [(zOX7 h t_kept), (zA gw (h 800) 1440 t_entries), (zA gw (h 801) 40 t_lengths), (zA gw ga0 gn0 g0)] sz)) 0 0 (va_A [(zOX7 h t_kept), (zA gw (h 800) 1440 t_entries), (zA gw (h 801) 40 t_lengths), (zA gw ga0 gn0 g0)] sz) :=
  z_met (by decide) rfl (Nat.le_of_ble_eq_true rfl) rfl (fun p e s m args below meth c A F hsz ls hl hP hD => w_X7_keep F h ga0 gn0 hg0 x2 t_entries t_lengths t_kept g0 u hm s.heap [] ls hP hD va_S.rf hl)
abbrev rmX8_areKinds : Room := { frames := 0, cells := 0, slots := 0, locals := 0 }
def m_X8_areKinds (x0 : Int) (x1 : Int) : Option (Int) :=
  gd (inI x0) <|
  if x0 < 0 then
    some 0
  else
    if 9 ≤ x0 then
      some 0
    else
      gd (inI x1) <|
      if x1 < 0 then
        some 0
      else
        if 9 ≤ x1 then
          some 0
        else
          some 1
set_option maxHeartbeats 4000000 in
set_option maxRecDepth 100000 in
theorem w_X8_areKinds (F : zF p s m args meth c A gw cX8_areKinds 2 (some .boolean) wsX8_areKinds yX8_areKinds) (h : Nat → Nat) (x0 : Int) (x1 : Int) (u : Int) (hm : m_X8_areKinds x0 x1 = some u) (H : Heap) (locs : List Loc) (ls : Array Slot) (hP : va_P gw.1 vwCl [] H) (hD : va_D A []) (hS : va_S A s.heap H locs) (hl : lv_has ls 2 [(0, .int (zi x0)), (1, .int (zi x1))]) : W p l e rmX8_areKinds s m args below meth c H locs 0 0 (MQ below (zQ gw (some (.int (zi u))) [] A) args s 0 0 A) (F0 m 0 ls []) := by
  obtain ⟨hx, hb, hml, hr, hown, hts, hlk, hK, hA, hnm⟩ := id F
  have hown : s.vm.findClass RX8 = some m.cls := hown
  unfold m_X8_areKinds at hm
  refine lv_iload_n hx hb dX8_areKinds_0 rfl (lv_at hl 0 rfl) ?_
  obtain ⟨g_1, hm⟩ := gd_e hm
  refine z_if_lt (tgt := 24) hx hb g_1 dX8_areKinds_1 (by decide) (fun c_1 => ?_) (fun c_1 => ?_)
  · have hm := if_p hm c_1
    refine lv_iconst (v := zi 0) hx hb dX8_areKinds_24 rfl ?_
    cases hm
    exact z_zret hx hb hr hlk hP hD hS (Or.inl rfl) dX8_areKinds_25
  · have hm := if_n hm c_1
    refine lv_iload_n hx hb dX8_areKinds_4 rfl (lv_at hl 0 rfl) ?_
    refine lv_bipush (v := zi 9) hx hb dX8_areKinds_5 (by decide) ?_
    refine z_icmp_ge (tgt := 24) hx hb g_1 (by decide) dX8_areKinds_7 (by decide) (fun c_7 => ?_) (fun c_7 => ?_)
    · have hm := if_p hm c_7
      refine lv_iconst (v := zi 0) hx hb dX8_areKinds_24 rfl ?_
      cases hm
      exact z_zret hx hb hr hlk hP hD hS (Or.inl rfl) dX8_areKinds_25
    · have hm := if_n hm c_7
      refine lv_iload_n hx hb dX8_areKinds_10 rfl (lv_at hl 1 rfl) ?_
      obtain ⟨g_11, hm⟩ := gd_e hm
      refine z_if_lt (tgt := 24) hx hb g_11 dX8_areKinds_11 (by decide) (fun c_11 => ?_) (fun c_11 => ?_)
      · have hm := if_p hm c_11
        refine lv_iconst (v := zi 0) hx hb dX8_areKinds_24 rfl ?_
        cases hm
        exact z_zret hx hb hr hlk hP hD hS (Or.inl rfl) dX8_areKinds_25
      · have hm := if_n hm c_11
        refine lv_iload_n hx hb dX8_areKinds_14 rfl (lv_at hl 1 rfl) ?_
        refine lv_bipush (v := zi 9) hx hb dX8_areKinds_15 (by decide) ?_
        refine z_icmp_ge (tgt := 24) hx hb g_11 (by decide) dX8_areKinds_17 (by decide) (fun c_17 => ?_) (fun c_17 => ?_)
        · have hm := if_p hm c_17
          refine lv_iconst (v := zi 0) hx hb dX8_areKinds_24 rfl ?_
          cases hm
          exact z_zret hx hb hr hlk hP hD hS (Or.inl rfl) dX8_areKinds_25
        · have hm := if_n hm c_17
          refine lv_iconst (v := zi 1) hx hb dX8_areKinds_20 rfl ?_
          refine lv_goto (tgt := 25) hx hb dX8_areKinds_21 (by decide) ?_
          cases hm
          exact z_zret hx hb hr hlk hP hD hS (Or.inr rfl) dX8_areKinds_25
theorem c_X8_areKinds (l : Launch) (gw : zG) (h : Nat → Nat) (x0 : Int) (x1 : Int) (u : Int) (hm : m_X8_areKinds x0 x1 = some u) (sz : Nat) : Met l yX8_areKinds wsX8_areKinds rmX8_areKinds (va_Pc [.int (zi x0), .int (zi x1)] (zPre gw [] sz)) (zQ gw (some (.int (zi u))) [] (va_A [] sz)) 0 0 (va_A [] sz) :=
  z_met (by decide) rfl (Nat.le_of_ble_eq_true rfl) rfl (fun p e s m args below meth c A F hsz ls hl hP hD => w_X8_areKinds F h x0 x1 u hm s.heap [] ls hP hD va_S.rf hl)
end
