section
variable {p : Program} {l : Launch} {e : Env} {s : State} {m : MethodId} {args : Array Value} {below : List Frame} {meth : Method} {c : Code} {A : Nat → Prop} {gw : zG} {Q : State → Prop}
abbrev rmX9_thrown : Room := { frames := 0, cells := 0, slots := 0, locals := 0 }
theorem iX9_thrown_X9 : ∀ w ∈ wsX90, w ∈ wsX9_thrown := by decide +kernel
def m_X9_thrown (m_code : Int) : Option (Int) :=
  some m_code
set_option maxHeartbeats 4000000 in
set_option maxRecDepth 100000 in
theorem w_X9_thrown (F : zF p s m args meth c A gw cX9_thrown 1 (some .int) wsX9_thrown yX9_thrown) (h : Nat → Nat) (m_words : Int) (m_endings : Int) (m_slip : Int) (m_guess : Int) (m_base : Int) (m_n : Int) (m_fixedMany : Int) (m_acts : Int) (m_kept : Int) (m_isRead : Int) (m_isMade : Int) (m_parts : Int) (m_total : Int) (m_found : Int) (m_from0 : Int) (m_kind0 : Int) (m_choices : Int) (m_code : Int) (u : Int) (hm : m_X9_thrown m_code = some u) (H : Heap) (locs : List Loc) (ls : Array Slot) (hP : va_P gw.1 vwCl [(zOX9 h m_code m_words m_endings m_slip m_guess m_base m_n m_fixedMany m_acts m_kept m_isRead m_isMade m_parts m_total m_found m_from0 m_kind0 m_choices)] H) (hD : va_D A [(zOX9 h m_code m_words m_endings m_slip m_guess m_base m_n m_fixedMany m_acts m_kept m_isRead m_isMade m_parts m_total m_found m_from0 m_kind0 m_choices)]) (hS : va_S A s.heap H locs) (hl : lv_has ls 1 [(0, .ref (h 9))]) : W p l e rmX9_thrown s m args below meth c H locs 0 0 (MQ below (zQ gw (some (.int (zi u))) [(zOX9 h m_code m_words m_endings m_slip m_guess m_base m_n m_fixedMany m_acts m_kept m_isRead m_isMade m_parts m_total m_found m_from0 m_kind0 m_choices)] A) args s 0 0 A) (F0 m 0 ls []) := by
  obtain ⟨hx, hb, hml, hr, hown, hts, hlk, hK, hA, hnm⟩ := id F
  have hown : s.vm.findClass RX9 = some m.cls := hown
  unfold m_X9_thrown at hm
  refine lv_aload_n hx hb dX9_thrown_0 rfl (lv_at hl 0 rfl) ?_
  refine va_get (D := gw.1) (ci := 9) (v := .int (zi m_code)) (C := RX9) (T := TX9) (N := 61) hx hb hts iX9_thrown_X9 hown hK.1 hP 0 rfl rfl 0 (by decide) (hts (.fieldLink RX9 151 "SoundLineModel" "code" "I") (by decide +kernel)) (fun _ h9 => h9) rfl dX9_thrown_1 ?_
  cases hm
  exact z_iret hx hb hr hlk hP hD hS dX9_thrown_4
theorem c_X9_thrown (l : Launch) (gw : zG) (h : Nat → Nat) (m_words : Int) (m_endings : Int) (m_slip : Int) (m_guess : Int) (m_base : Int) (m_n : Int) (m_fixedMany : Int) (m_acts : Int) (m_kept : Int) (m_isRead : Int) (m_isMade : Int) (m_parts : Int) (m_total : Int) (m_found : Int) (m_from0 : Int) (m_kind0 : Int) (m_choices : Int) (m_code : Int) (u : Int) (hm : m_X9_thrown m_code = some u) (sz : Nat) : Met l yX9_thrown wsX9_thrown rmX9_thrown (va_Pc [.ref (h 9)] (zPre gw [(zOX9 h m_code m_words m_endings m_slip m_guess m_base m_n m_fixedMany m_acts m_kept m_isRead m_isMade m_parts m_total m_found m_from0 m_kind0 m_choices)] sz)) (zQ gw (some (.int (zi u))) [(zOX9 h m_code m_words m_endings m_slip m_guess m_base m_n m_fixedMany m_acts m_kept m_isRead m_isMade m_parts m_total m_found m_from0 m_kind0 m_choices)] (va_A [(zOX9 h m_code m_words m_endings m_slip m_guess m_base m_n m_fixedMany m_acts m_kept m_isRead m_isMade m_parts m_total m_found m_from0 m_kind0 m_choices)] sz)) 0 0 (va_A [(zOX9 h m_code m_words m_endings m_slip m_guess m_base m_n m_fixedMany m_acts m_kept m_isRead m_isMade m_parts m_total m_found m_from0 m_kind0 m_choices)] sz) :=
  z_met (by decide) rfl (Nat.le_of_ble_eq_true rfl) rfl (fun p e s m args below meth c A F hsz ls hl hP hD => w_X9_thrown F h m_words m_endings m_slip m_guess m_base m_n m_fixedMany m_acts m_kept m_isRead m_isMade m_parts m_total m_found m_from0 m_kind0 m_choices m_code u hm s.heap [] ls hP hD va_S.rf hl)
abbrev rmX9_fail : Room := { frames := 0, cells := 0, slots := 0, locals := 0 }
theorem iX9_fail_X9 : ∀ w ∈ wsX90, w ∈ wsX9_fail := by decide +kernel
def m_X9_fail (m_code : Int) : Option (Int × Int) :=
  some (0, 1)
set_option maxHeartbeats 4000000 in
set_option maxRecDepth 100000 in
theorem w_X9_fail (F : zF p s m args meth c A gw cX9_fail 1 (some .int) wsX9_fail yX9_fail) (h : Nat → Nat) (m_words : Int) (m_endings : Int) (m_slip : Int) (m_guess : Int) (m_base : Int) (m_n : Int) (m_fixedMany : Int) (m_acts : Int) (m_kept : Int) (m_isRead : Int) (m_isMade : Int) (m_parts : Int) (m_total : Int) (m_found : Int) (m_from0 : Int) (m_kind0 : Int) (m_choices : Int) (m_code : Int) (u : Int × Int) (hm : m_X9_fail m_code = some u) (H : Heap) (locs : List Loc) (ls : Array Slot) (hP : va_P gw.1 vwCl [(zOX9 h m_code m_words m_endings m_slip m_guess m_base m_n m_fixedMany m_acts m_kept m_isRead m_isMade m_parts m_total m_found m_from0 m_kind0 m_choices)] H) (hD : va_D A [(zOX9 h m_code m_words m_endings m_slip m_guess m_base m_n m_fixedMany m_acts m_kept m_isRead m_isMade m_parts m_total m_found m_from0 m_kind0 m_choices)]) (hS : va_S A s.heap H locs) (hl : lv_has ls 1 [(0, .ref (h 9))]) : W p l e rmX9_fail s m args below meth c H locs 0 0 (MQ below (zQ gw (some (.int (zi u.1))) [(zOX9 h (u.2) m_words m_endings m_slip m_guess m_base m_n m_fixedMany m_acts m_kept m_isRead m_isMade m_parts m_total m_found m_from0 m_kind0 m_choices)] A) args s 0 0 A) (F0 m 0 ls []) := by
  obtain ⟨hx, hb, hml, hr, hown, hts, hlk, hK, hA, hnm⟩ := id F
  have hown : s.vm.findClass RX9 = some m.cls := hown
  unfold m_X9_fail at hm
  refine lv_aload_n hx hb dX9_fail_0 rfl (lv_at hl 0 rfl) ?_
  refine lv_iconst (v := zi 1) hx hb dX9_fail_1 rfl ?_
  refine va_put (D := gw.1) (ci := 9) (v := .int (zi 1)) (ty := .int) (C := RX9) (T := TX9) (N := 61) hx hb hts iX9_fail_X9 tyX9 tyX9_ok nmX9 hown hK.1 hP hD hS 0 rfl rfl 0 (by decide) (hts (.fieldLink RX9 151 "SoundLineModel" "code" "I") (by decide +kernel)) (fun _ h9 => h9) rfl (by decide +kernel) rfl rfl (Nat.le_of_ble_eq_true rfl) dX9_fail_2 (fun H locs hP hD hS => ?_)
  have hP : va_P gw.1 vwCl [(zOX9 h 1 m_words m_endings m_slip m_guess m_base m_n m_fixedMany m_acts m_kept m_isRead m_isMade m_parts m_total m_found m_from0 m_kind0 m_choices)] H := hP
  have hD : va_D A [(zOX9 h 1 m_words m_endings m_slip m_guess m_base m_n m_fixedMany m_acts m_kept m_isRead m_isMade m_parts m_total m_found m_from0 m_kind0 m_choices)] := hD
  refine lv_iconst (v := zi 0) hx hb dX9_fail_5 rfl ?_
  cases hm
  exact z_iret hx hb hr hlk hP hD hS dX9_fail_6
theorem c_X9_fail (l : Launch) (gw : zG) (h : Nat → Nat) (m_words : Int) (m_endings : Int) (m_slip : Int) (m_guess : Int) (m_base : Int) (m_n : Int) (m_fixedMany : Int) (m_acts : Int) (m_kept : Int) (m_isRead : Int) (m_isMade : Int) (m_parts : Int) (m_total : Int) (m_found : Int) (m_from0 : Int) (m_kind0 : Int) (m_choices : Int) (m_code : Int) (u : Int × Int) (hm : m_X9_fail m_code = some u) (sz : Nat) : Met l yX9_fail wsX9_fail rmX9_fail (va_Pc [.ref (h 9)] (zPre gw [(zOX9 h m_code m_words m_endings m_slip m_guess m_base m_n m_fixedMany m_acts m_kept m_isRead m_isMade m_parts m_total m_found m_from0 m_kind0 m_choices)] sz)) (zQ gw (some (.int (zi u.1))) [(zOX9 h (u.2) m_words m_endings m_slip m_guess m_base m_n m_fixedMany m_acts m_kept m_isRead m_isMade m_parts m_total m_found m_from0 m_kind0 m_choices)] (va_A [(zOX9 h m_code m_words m_endings m_slip m_guess m_base m_n m_fixedMany m_acts m_kept m_isRead m_isMade m_parts m_total m_found m_from0 m_kind0 m_choices)] sz)) 0 0 (va_A [(zOX9 h m_code m_words m_endings m_slip m_guess m_base m_n m_fixedMany m_acts m_kept m_isRead m_isMade m_parts m_total m_found m_from0 m_kind0 m_choices)] sz) :=
  z_met (by decide) rfl (Nat.le_of_ble_eq_true rfl) rfl (fun p e s m args below meth c A F hsz ls hl hP hD => w_X9_fail F h m_words m_endings m_slip m_guess m_base m_n m_fixedMany m_acts m_kept m_isRead m_isMade m_parts m_total m_found m_from0 m_kind0 m_choices m_code u hm s.heap [] ls hP hD va_S.rf hl)
abbrev rmX9_changed : Room := { frames := 0, cells := 0, slots := 0, locals := 0 }
theorem iX9_changed_X9 : ∀ w ∈ wsX90, w ∈ wsX9_changed := by decide +kernel
def m_X9_changed (m_isRead : Int) (m_isMade : Int) : Option (Int × Int) :=
  some (0, 0)
set_option maxHeartbeats 4000000 in
set_option maxRecDepth 100000 in
theorem w_X9_changed (F : zF p s m args meth c A gw cX9_changed 1 none wsX9_changed yX9_changed) (h : Nat → Nat) (m_code : Int) (m_words : Int) (m_endings : Int) (m_slip : Int) (m_guess : Int) (m_base : Int) (m_n : Int) (m_fixedMany : Int) (m_acts : Int) (m_kept : Int) (m_parts : Int) (m_total : Int) (m_found : Int) (m_from0 : Int) (m_kind0 : Int) (m_choices : Int) (m_isRead : Int) (m_isMade : Int) (u : Int × Int) (hm : m_X9_changed m_isRead m_isMade = some u) (H : Heap) (locs : List Loc) (ls : Array Slot) (hP : va_P gw.1 vwCl [(zOX9 h m_code m_words m_endings m_slip m_guess m_base m_n m_fixedMany m_acts m_kept m_isRead m_isMade m_parts m_total m_found m_from0 m_kind0 m_choices)] H) (hD : va_D A [(zOX9 h m_code m_words m_endings m_slip m_guess m_base m_n m_fixedMany m_acts m_kept m_isRead m_isMade m_parts m_total m_found m_from0 m_kind0 m_choices)]) (hS : va_S A s.heap H locs) (hl : lv_has ls 1 [(0, .ref (h 9))]) : W p l e rmX9_changed s m args below meth c H locs 0 0 (MQ below (zQ gw none [(zOX9 h m_code m_words m_endings m_slip m_guess m_base m_n m_fixedMany m_acts m_kept (u.1) (u.2) m_parts m_total m_found m_from0 m_kind0 m_choices)] A) args s 0 0 A) (F0 m 0 ls []) := by
  obtain ⟨hx, hb, hml, hr, hown, hts, hlk, hK, hA, hnm⟩ := id F
  have hown : s.vm.findClass RX9 = some m.cls := hown
  unfold m_X9_changed at hm
  refine lv_aload_n hx hb dX9_changed_0 rfl (lv_at hl 0 rfl) ?_
  refine lv_iconst (v := zi 0) hx hb dX9_changed_1 rfl ?_
  refine va_put (D := gw.1) (ci := 9) (v := .int (zi 0)) (ty := .boolean) (C := RX9) (T := TX9) (N := 61) hx hb hts iX9_changed_X9 tyX9 tyX9_ok nmX9 hown hK.1 hP hD hS 0 rfl rfl 41 (by decide) (hts (.fieldLink RX9 154 "SoundLineModel" "isRead" "Z") (by decide +kernel)) (fun _ h9 => h9) rfl (by decide +kernel) (by decide) (by decide) (Nat.le_of_ble_eq_true rfl) dX9_changed_2 (fun H locs hP hD hS => ?_)
  have hP : va_P gw.1 vwCl [(zOX9 h m_code m_words m_endings m_slip m_guess m_base m_n m_fixedMany m_acts m_kept 0 m_isMade m_parts m_total m_found m_from0 m_kind0 m_choices)] H := hP
  have hD : va_D A [(zOX9 h m_code m_words m_endings m_slip m_guess m_base m_n m_fixedMany m_acts m_kept 0 m_isMade m_parts m_total m_found m_from0 m_kind0 m_choices)] := hD
  refine lv_aload_n hx hb dX9_changed_5 rfl (lv_at hl 0 rfl) ?_
  refine lv_iconst (v := zi 0) hx hb dX9_changed_6 rfl ?_
  refine va_put (D := gw.1) (ci := 9) (v := .int (zi 0)) (ty := .boolean) (C := RX9) (T := TX9) (N := 61) hx hb hts iX9_changed_X9 tyX9 tyX9_ok nmX9 hown hK.1 hP hD hS 0 rfl rfl 42 (by decide) (hts (.fieldLink RX9 158 "SoundLineModel" "isMade" "Z") (by decide +kernel)) (fun _ h9 => h9) rfl (by decide +kernel) (by decide) (by decide) (Nat.le_of_ble_eq_true rfl) dX9_changed_7 (fun H locs hP hD hS => ?_)
  have hP : va_P gw.1 vwCl [(zOX9 h m_code m_words m_endings m_slip m_guess m_base m_n m_fixedMany m_acts m_kept 0 0 m_parts m_total m_found m_from0 m_kind0 m_choices)] H := hP
  have hD : va_D A [(zOX9 h m_code m_words m_endings m_slip m_guess m_base m_n m_fixedMany m_acts m_kept 0 0 m_parts m_total m_found m_from0 m_kind0 m_choices)] := hD
  cases hm
  exact z_vret hx hb hr hlk hP hD hS dX9_changed_10
theorem c_X9_changed (l : Launch) (gw : zG) (h : Nat → Nat) (m_code : Int) (m_words : Int) (m_endings : Int) (m_slip : Int) (m_guess : Int) (m_base : Int) (m_n : Int) (m_fixedMany : Int) (m_acts : Int) (m_kept : Int) (m_parts : Int) (m_total : Int) (m_found : Int) (m_from0 : Int) (m_kind0 : Int) (m_choices : Int) (m_isRead : Int) (m_isMade : Int) (u : Int × Int) (hm : m_X9_changed m_isRead m_isMade = some u) (sz : Nat) : Met l yX9_changed wsX9_changed rmX9_changed (va_Pc [.ref (h 9)] (zPre gw [(zOX9 h m_code m_words m_endings m_slip m_guess m_base m_n m_fixedMany m_acts m_kept m_isRead m_isMade m_parts m_total m_found m_from0 m_kind0 m_choices)] sz)) (zQ gw none [(zOX9 h m_code m_words m_endings m_slip m_guess m_base m_n m_fixedMany m_acts m_kept (u.1) (u.2) m_parts m_total m_found m_from0 m_kind0 m_choices)] (va_A [(zOX9 h m_code m_words m_endings m_slip m_guess m_base m_n m_fixedMany m_acts m_kept m_isRead m_isMade m_parts m_total m_found m_from0 m_kind0 m_choices)] sz)) 0 0 (va_A [(zOX9 h m_code m_words m_endings m_slip m_guess m_base m_n m_fixedMany m_acts m_kept m_isRead m_isMade m_parts m_total m_found m_from0 m_kind0 m_choices)] sz) :=
  z_met (by decide) rfl (Nat.le_of_ble_eq_true rfl) rfl (fun p e s m args below meth c A F hsz ls hl hP hD => w_X9_changed F h m_code m_words m_endings m_slip m_guess m_base m_n m_fixedMany m_acts m_kept m_parts m_total m_found m_from0 m_kind0 m_choices m_isRead m_isMade u hm s.heap [] ls hP hD va_S.rf hl)
abbrev rmX9_piece : Room := { frames := 0, cells := 0, slots := 0, locals := 0 }
def m_X9_piece (x0 : Int) (x2 : Int) (x3 : Int) : Option (Int) :=
  gd (inL x0) <|
  gd (0 ≤ (x2 * x3) ∧ (x2 * x3) < 64) <|
  gd (0 ≤ x2 ∧ x2 < 64) <|
  some (zland (x0 / 2 ^ Int.toNat (x2 * x3)) ((1 * 2 ^ Int.toNat x2) - 1))
set_option maxHeartbeats 4000000 in
set_option maxRecDepth 100000 in
theorem w_X9_piece (F : zF p s m args meth c A gw cX9_piece 4 (some .int) wsX9_piece yX9_piece) (h : Nat → Nat) (x0 : Int) (x2 : Int) (x3 : Int) (u : Int) (hm : m_X9_piece x0 x2 x3 = some u) (H : Heap) (locs : List Loc) (ls : Array Slot) (hP : va_P gw.1 vwCl [] H) (hD : va_D A []) (hS : va_S A s.heap H locs) (hl : lv_has ls 4 [(0, .long (zl x0)), (2, .int (zi x2)), (3, .int (zi x3))]) : W p l e rmX9_piece s m args below meth c H locs 0 0 (MQ below (zQ gw (some (.int (zi u))) [] A) args s 0 0 A) (F0 m 0 ls []) := by
  obtain ⟨hx, hb, hml, hr, hown, hts, hlk, hK, hA, hnm⟩ := id F
  have hown : s.vm.findClass RX9 = some m.cls := hown
  unfold m_X9_piece at hm
  refine lv_lload_n hx hb dX9_piece_0 rfl (lv_at hl 0 rfl) ?_
  refine lv_iload_n hx hb dX9_piece_1 rfl (lv_at hl 1 rfl) ?_
  refine lv_iload_n hx hb dX9_piece_2 rfl (lv_at hl 2 rfl) ?_
  refine z_imul hx hb dX9_piece_3 ?_
  obtain ⟨g_4, hm⟩ := gd_e hm
  obtain ⟨g_4_v2, hm⟩ := gd_e hm
  refine z_lshr hx hb ⟨g_4, g_4_v2⟩ dX9_piece_4 ?_
  refine lv_lconst (v := zl 1) hx hb dX9_piece_5 (by decide) ?_
  refine lv_iload_n hx hb dX9_piece_6 rfl (lv_at hl 1 rfl) ?_
  obtain ⟨g_7, hm⟩ := gd_e hm
  refine z_lshl hx hb g_7 dX9_piece_7 ?_
  refine lv_lconst (v := zl 1) hx hb dX9_piece_8 (by decide) ?_
  refine z_lsub hx hb dX9_piece_9 ?_
  refine z_land hx hb dX9_piece_10 ?_
  refine z_l2i hx hb dX9_piece_11 ?_
  cases hm
  exact z_iret hx hb hr hlk hP hD hS dX9_piece_12
theorem c_X9_piece (l : Launch) (gw : zG) (h : Nat → Nat) (x0 : Int) (x2 : Int) (x3 : Int) (u : Int) (hm : m_X9_piece x0 x2 x3 = some u) (sz : Nat) : Met l yX9_piece wsX9_piece rmX9_piece (va_Pc [.long (zl x0), .int (zi x2), .int (zi x3)] (zPre gw [] sz)) (zQ gw (some (.int (zi u))) [] (va_A [] sz)) 0 0 (va_A [] sz) :=
  z_met (by decide) rfl (Nat.le_of_ble_eq_true rfl) rfl (fun p e s m args below meth c A F hsz ls hl hP hD => w_X9_piece F h x0 x2 x3 u hm s.heap [] ls hP hD va_S.rf hl)
abbrev rmX9_sizeOf : Room := { frames := 1, cells := 0, slots := 0, locals := 23 }
def m_X9_sizeOf_2 (x0 : Int) (x2 : Int) (x3 : Int) : Option (Nat × (Int)) :=
  gd (inI (x2 * x3)) <|
  if 60 ≤ (x2 * x3) then
    some (1, x3)
  else
    (m_X9_piece x0 x2 x3).bind fun r_13 =>
    gd (inI r_13) <|
    if r_13 = 0 then
      some (1, x3)
    else
      vl (x3 + 1) fun x3_19 =>
      some (0, x3_19)
set_option maxHeartbeats 4000000 in
set_option maxRecDepth 100000 in
theorem w_X9_sizeOf_2 (F : zF p s m args meth c A gw cX9_sizeOf 4 (some .int) wsX9_sizeOf yX9_sizeOf) (h : Nat → Nat)  (x0 : Int) (x2 : Int) (x3 : Int) (u : Nat × (Int)) (hm : m_X9_sizeOf_2 x0 x2 x3 = some u) (H : Heap) (locs : List Loc) (ls : Array Slot) (hP : va_P gw.1 vwCl [] H) (hD : va_D A []) (hS : va_S A s.heap H locs) (hl : lv_has ls 4 [(0, .long (zl x0)), (2, .int (zi x2)), (3, .int (zi x3))]) (k0 : u.1 = 0 → ∀ (H : Heap) (locs : List Loc) (ls : Array Slot), va_P gw.1 vwCl [] H → va_D A [] → va_S A s.heap H locs → lv_has ls 4 [(0, .long (zl x0)), (2, .int (zi x2)), (3, .int (zi (u.2)))] → W p l e rmX9_sizeOf s m args below meth c H locs 0 0 Q (F0 m 2 ls [])) (k1 : u.1 = 1 → ∀ (H : Heap) (locs : List Loc) (ls : Array Slot), va_P gw.1 vwCl [] H → va_D A [] → va_S A s.heap H locs → lv_has ls 4 [(3, .int (zi (u.2)))] → W p l e rmX9_sizeOf s m args below meth c H locs 0 0 Q (F0 m 25 ls [])) : W p l e rmX9_sizeOf s m args below meth c H locs 0 0 Q (F0 m 2 ls []) := by
  obtain ⟨hx, hb, hml, hr, hown, hts, hlk, hK, hA, hnm⟩ := id F
  have hown : s.vm.findClass RX9 = some m.cls := hown
  unfold m_X9_sizeOf_2 at hm
  refine lv_iload_n hx hb dX9_sizeOf_2 rfl (lv_at hl 1 rfl) ?_
  refine lv_iload_n hx hb dX9_sizeOf_3 rfl (lv_at hl 2 rfl) ?_
  refine z_imul hx hb dX9_sizeOf_4 ?_
  refine lv_bipush (v := zi 60) hx hb dX9_sizeOf_5 (by decide) ?_
  obtain ⟨g_7, hm⟩ := gd_e hm
  refine z_icmp_ge (tgt := 25) hx hb g_7 (by decide) dX9_sizeOf_7 (by decide) (fun c_7 => ?_) (fun c_7 => ?_)
  · have hm := if_p hm c_7
    cases hm
    exact k1 rfl _ _ _ hP hD hS (lv_sub hl [2] rfl)
  · have hm := if_n hm c_7
    refine lv_lload_n hx hb dX9_sizeOf_10 rfl (lv_at hl 0 rfl) ?_
    refine lv_iload_n hx hb dX9_sizeOf_11 rfl (lv_at hl 1 rfl) ?_
    refine lv_iload_n hx hb dX9_sizeOf_12 rfl (lv_at hl 2 rfl) ?_
    obtain ⟨r_13, hr_13, hm⟩ := bd_e hm
    refine z_callS (As := [.long (zl x0), .int (zi x2), .int (zi x3)]) (rest := []) (wr := []) (ws' := []) ⟨hx, hb, hml, hown, hts⟩ (c_X9_piece l gw h x0 x2 x3 r_13 hr_13 H.size) (va_cwS 3 hts gX9_sizeOf_X9_piece rfl rfl rfl (by decide +kernel) ⟨Nat.le_of_ble_eq_true rfl, Nat.le_of_ble_eq_true rfl⟩) hK hP hD hS hA [] [] [] (by decide) rfl rfl (by decide) (by decide) rfl (by decide) rfl hl.1 (Nat.le_of_ble_eq_true rfl) dX9_sizeOf_13 ⟨Nat.zero_le _, Nat.zero_le _⟩ rfl (fun H locs hP hD hS => ?_)
    have hP : va_P gw.1 vwCl [] H := hP
    have hD : va_D A [] := hD
    refine W.eq (g2 := F0 m 16 ls [.int (zi r_13)]) rfl ?_
    obtain ⟨g_16, hm⟩ := gd_e hm
    refine z_if_eq (tgt := 25) hx hb g_16 dX9_sizeOf_16 (by decide) (fun c_16 => ?_) (fun c_16 => ?_)
    · have hm := if_p hm c_16
      cases hm
      exact k1 rfl _ _ _ hP hD hS (lv_sub hl [2] rfl)
    · have hm := if_n hm c_16
      obtain ⟨x3_19, e_x3_19, hm⟩ := vl_e hm
      refine lv_iinc (v := zi x3_19) (lv' := [(3, .int (zi x3_19)), (0, .long (zl x0)), (2, .int (zi x2))]) hx hb dX9_sizeOf_19 hl (k := 2) rfl (by rw [e_x3_19]; exact zi_add _ _) (by decide) rfl (fun ls hl => ?_)
      refine lv_goto (tgt := 2) hx hb dX9_sizeOf_22 (by decide) ?_
      cases hm
      exact k0 rfl _ _ _ hP hD hS (lv_sub hl [1, 2, 0] rfl)
set_option maxHeartbeats 4000000 in
theorem l_X9_sizeOf_2 (F : zF p s m args meth c A gw cX9_sizeOf 4 (some .int) wsX9_sizeOf yX9_sizeOf) (h : Nat → Nat)  (x0 : Int) (x2 : Int) (n : Nat) (a : Int) (u : Nat × (Int)) (hm : zloop (fun a => m_X9_sizeOf_2 x0 x2 a) n a = some u) (k1 : u.1 = 1 → ∀ (H : Heap) (locs : List Loc) (ls : Array Slot), va_P gw.1 vwCl [] H → va_D A [] → va_S A s.heap H locs → lv_has ls 4 [(3, .int (zi (u.2)))] → W p l e rmX9_sizeOf s m args below meth c H locs 0 0 Q (F0 m 25 ls [])) (H : Heap) (locs : List Loc) (ls : Array Slot) (hP : va_P gw.1 vwCl [] H) (hD : va_D A []) (hS : va_S A s.heap H locs) (hl : lv_has ls 4 [(0, .long (zl x0)), (2, .int (zi x2)), (3, .int (zi a))]) : W p l e rmX9_sizeOf s m args below meth c H locs 0 0 Q (F0 m 2 ls []) := by
  refine zloop_ind (P := fun a => ∀ (H : Heap) (locs : List Loc) (ls : Array Slot), va_P gw.1 vwCl [] H → va_D A [] → va_S A s.heap H locs → lv_has ls 4 [(0, .long (zl x0)), (2, .int (zi x2)), (3, .int (zi a))] → W p l e rmX9_sizeOf s m args below meth c H locs 0 0 Q (F0 m 2 ls [])) (K := fun w => (w.1 = 1 → ∀ (H : Heap) (locs : List Loc) (ls : Array Slot), va_P gw.1 vwCl [] H → va_D A [] → va_S A s.heap H locs → lv_has ls 4 [(3, .int (zi (w.2)))] → W p l e rmX9_sizeOf s m args below meth c H locs 0 0 Q (F0 m 25 ls []))) (fun a w hb h0 hk H locs ls hP hD hS hl => ?_) n a u hm (fun _ => k1) H locs ls hP hD hS hl
  exact w_X9_sizeOf_2 F h  x0 x2 a w hb H locs ls hP hD hS hl (fun z H locs ls hP hD hS hl => h0 z H locs ls hP hD hS hl) (fun z => (hk (by rw [z]; decide)) z)
def m_X9_sizeOf (x0 : Int) (x2 : Int) : Option (Int) :=
  (zloop (fun a => m_X9_sizeOf_2 x0 x2 a) FU 0).bind fun (t_2, x3_2) =>
  some x3_2
set_option maxHeartbeats 4000000 in
set_option maxRecDepth 100000 in
theorem w_X9_sizeOf (F : zF p s m args meth c A gw cX9_sizeOf 4 (some .int) wsX9_sizeOf yX9_sizeOf) (h : Nat → Nat) (x0 : Int) (x2 : Int) (u : Int) (hm : m_X9_sizeOf x0 x2 = some u) (H : Heap) (locs : List Loc) (ls : Array Slot) (hP : va_P gw.1 vwCl [] H) (hD : va_D A []) (hS : va_S A s.heap H locs) (hl : lv_has ls 4 [(0, .long (zl x0)), (2, .int (zi x2))]) : W p l e rmX9_sizeOf s m args below meth c H locs 0 0 (MQ below (zQ gw (some (.int (zi u))) [] A) args s 0 0 A) (F0 m 0 ls []) := by
  obtain ⟨hx, hb, hml, hr, hown, hts, hlk, hK, hA, hnm⟩ := id F
  have hown : s.vm.findClass RX9 = some m.cls := hown
  unfold m_X9_sizeOf at hm
  refine lv_iconst (v := zi 0) hx hb dX9_sizeOf_0 rfl ?_
  refine lv_istore_n (lv' := [(3, .int (zi 0)), (0, .long (zl x0)), (2, .int (zi x2))]) hx hb dX9_sizeOf_1 rfl hl (by decide) rfl (fun ls hl => ?_)
  obtain ⟨u_2, hu_2, hm⟩ := bd_e hm
  obtain ⟨t_2, x3_2⟩ := u_2
  refine l_X9_sizeOf_2 F h  x0 x2 FU 0 _ hu_2 (fun z_2 H locs ls hP hD hS hl => ?_) _ _ _ hP hD hS (lv_sub hl [1, 2, 0] rfl)
  have hP : va_P gw.1 vwCl [] H := hP
  have hD : va_D A [] := hD
  have hl : lv_has ls 4 [(3, .int (zi x3_2))] := hl
  refine lv_iload_n hx hb dX9_sizeOf_25 rfl (lv_at hl 0 rfl) ?_
  cases hm
  exact z_iret hx hb hr hlk hP hD hS dX9_sizeOf_26
theorem c_X9_sizeOf (l : Launch) (gw : zG) (h : Nat → Nat) (x0 : Int) (x2 : Int) (u : Int) (hm : m_X9_sizeOf x0 x2 = some u) (sz : Nat) : Met l yX9_sizeOf wsX9_sizeOf rmX9_sizeOf (va_Pc [.long (zl x0), .int (zi x2)] (zPre gw [] sz)) (zQ gw (some (.int (zi u))) [] (va_A [] sz)) 0 0 (va_A [] sz) :=
  z_met (by decide) rfl (Nat.le_of_ble_eq_true rfl) rfl (fun p e s m args below meth c A F hsz ls hl hP hD => w_X9_sizeOf F h x0 x2 u hm s.heap [] ls hP hD va_S.rf hl)
abbrev rmX9_isRow : Room := { frames := 2, cells := 0, slots := 0, locals := 46 }
def m_X9_isRow_46 (x0 : Int) (x2 : Int) (x4 : Int) (x5 : Int) (x6 : Int) (x7 : Int) : Option (Nat × (Int × Int)) :=
  gd (inI x6) <|
  if x6 = 0 then
    some (1, (x6, x7))
  else
    gd (inI x7) <|
    gd (inI x5) <|
    if x5 ≤ x7 then
      some (1, (x6, x7))
    else
      (m_X9_piece x0 x2 x7).bind fun r_62 =>
      gd (inI r_62) <|
      gd (inI x4) <|
      if x4 < r_62 then
        vl (x7 + 1) fun x7_77 =>
        some (0, (0, x7_77))
      else
        vl (x7 + 1) fun x7_77_v2 =>
        some (0, (1, x7_77_v2))
set_option maxHeartbeats 4000000 in
set_option maxRecDepth 100000 in
theorem w_X9_isRow_46 (F : zF p s m args meth c A gw cX9_isRow 8 (some .boolean) wsX9_isRow yX9_isRow) (h : Nat → Nat)  (x0 : Int) (x2 : Int) (x4 : Int) (x5 : Int) (x6 : Int) (x7 : Int) (u : Nat × (Int × Int)) (hm : m_X9_isRow_46 x0 x2 x4 x5 x6 x7 = some u) (H : Heap) (locs : List Loc) (ls : Array Slot) (hP : va_P gw.1 vwCl [] H) (hD : va_D A []) (hS : va_S A s.heap H locs) (hl : lv_has ls 8 [(0, .long (zl x0)), (2, .int (zi x2)), (4, .int (zi x4)), (5, .int (zi x5)), (6, .int (zi x6)), (7, .int (zi x7))]) (k0 : u.1 = 0 → ∀ (H : Heap) (locs : List Loc) (ls : Array Slot), va_P gw.1 vwCl [] H → va_D A [] → va_S A s.heap H locs → lv_has ls 8 [(0, .long (zl x0)), (2, .int (zi x2)), (4, .int (zi x4)), (5, .int (zi x5)), (6, .int (zi (u.2.1))), (7, .int (zi (u.2.2)))] → W p l e rmX9_isRow s m args below meth c H locs 0 0 Q (F0 m 46 ls [])) (k1 : u.1 = 1 → ∀ (H : Heap) (locs : List Loc) (ls : Array Slot), va_P gw.1 vwCl [] H → va_D A [] → va_S A s.heap H locs → lv_has ls 8 [(6, .int (zi (u.2.1)))] → W p l e rmX9_isRow s m args below meth c H locs 0 0 Q (F0 m 83 ls [])) : W p l e rmX9_isRow s m args below meth c H locs 0 0 Q (F0 m 46 ls []) := by
  obtain ⟨hx, hb, hml, hr, hown, hts, hlk, hK, hA, hnm⟩ := id F
  have hown : s.vm.findClass RX9 = some m.cls := hown
  unfold m_X9_isRow_46 at hm
  refine lv_iload hx hb dX9_isRow_46 (lv_at hl 4 rfl) ?_
  obtain ⟨g_48, hm⟩ := gd_e hm
  refine z_if_eq (tgt := 83) hx hb g_48 dX9_isRow_48 (by decide) (fun c_48 => ?_) (fun c_48 => ?_)
  · have hm := if_p hm c_48
    cases hm
    exact k1 rfl _ _ _ hP hD hS (lv_sub hl [4] rfl)
  · have hm := if_n hm c_48
    refine lv_iload hx hb dX9_isRow_51 (lv_at hl 5 rfl) ?_
    refine lv_iload hx hb dX9_isRow_53 (lv_at hl 3 rfl) ?_
    obtain ⟨g_55, hm⟩ := gd_e hm
    obtain ⟨g_55_v2, hm⟩ := gd_e hm
    refine z_icmp_ge (tgt := 83) hx hb g_55 g_55_v2 dX9_isRow_55 (by decide) (fun c_55 => ?_) (fun c_55 => ?_)
    · have hm := if_p hm c_55
      cases hm
      exact k1 rfl _ _ _ hP hD hS (lv_sub hl [4] rfl)
    · have hm := if_n hm c_55
      refine lv_lload_n hx hb dX9_isRow_58 rfl (lv_at hl 0 rfl) ?_
      refine lv_iload_n hx hb dX9_isRow_59 rfl (lv_at hl 1 rfl) ?_
      refine lv_iload hx hb dX9_isRow_60 (lv_at hl 5 rfl) ?_
      obtain ⟨r_62, hr_62, hm⟩ := bd_e hm
      refine z_callS (As := [.long (zl x0), .int (zi x2), .int (zi x7)]) (rest := []) (wr := []) (ws' := []) ⟨hx, hb, hml, hown, hts⟩ (c_X9_piece l gw h x0 x2 x7 r_62 hr_62 H.size) (va_cwS 3 hts gX9_isRow_X9_piece rfl rfl rfl (by decide +kernel) ⟨Nat.le_of_ble_eq_true rfl, Nat.le_of_ble_eq_true rfl⟩) hK hP hD hS hA [] [] [] (by decide) rfl rfl (by decide) (by decide) rfl (by decide) rfl hl.1 (Nat.le_of_ble_eq_true rfl) dX9_isRow_62 ⟨Nat.zero_le _, Nat.zero_le _⟩ rfl (fun H locs hP hD hS => ?_)
      have hP : va_P gw.1 vwCl [] H := hP
      have hD : va_D A [] := hD
      refine W.eq (g2 := F0 m 65 ls [.int (zi r_62)]) rfl ?_
      refine lv_iload hx hb dX9_isRow_65 (lv_at hl 2 rfl) ?_
      obtain ⟨g_67, hm⟩ := gd_e hm
      obtain ⟨g_67_v2, hm⟩ := gd_e hm
      refine z_icmp_gt (tgt := 74) hx hb g_67 g_67_v2 dX9_isRow_67 (by decide) (fun c_67 => ?_) (fun c_67 => ?_)
      · have hm := if_p hm c_67
        refine lv_iconst (v := zi 0) hx hb dX9_isRow_74 rfl ?_
        refine lv_istore (lv' := [(6, .int (zi 0)), (0, .long (zl x0)), (2, .int (zi x2)), (4, .int (zi x4)), (5, .int (zi x5)), (7, .int (zi x7))]) hx hb dX9_isRow_75 hl (by decide) rfl (fun ls hl => ?_)
        obtain ⟨x7_77, e_x7_77, hm⟩ := vl_e hm
        refine lv_iinc (v := zi x7_77) (lv' := [(7, .int (zi x7_77)), (6, .int (zi 0)), (0, .long (zl x0)), (2, .int (zi x2)), (4, .int (zi x4)), (5, .int (zi x5))]) hx hb dX9_isRow_77 hl (k := 5) rfl (by rw [e_x7_77]; exact zi_add _ _) (by decide) rfl (fun ls hl => ?_)
        refine lv_goto (tgt := 46) hx hb dX9_isRow_80 (by decide) ?_
        cases hm
        exact k0 rfl _ _ _ hP hD hS (lv_sub hl [2, 3, 4, 5, 1, 0] rfl)
      · have hm := if_n hm c_67
        refine lv_iconst (v := zi 1) hx hb dX9_isRow_70 rfl ?_
        refine lv_goto (tgt := 75) hx hb dX9_isRow_71 (by decide) ?_
        refine lv_istore (lv' := [(6, .int (zi 1)), (0, .long (zl x0)), (2, .int (zi x2)), (4, .int (zi x4)), (5, .int (zi x5)), (7, .int (zi x7))]) hx hb dX9_isRow_75 hl (by decide) rfl (fun ls hl => ?_)
        obtain ⟨x7_77_v2, e_x7_77_v2, hm⟩ := vl_e hm
        refine lv_iinc (v := zi x7_77_v2) (lv' := [(7, .int (zi x7_77_v2)), (6, .int (zi 1)), (0, .long (zl x0)), (2, .int (zi x2)), (4, .int (zi x4)), (5, .int (zi x5))]) hx hb dX9_isRow_77 hl (k := 5) rfl (by rw [e_x7_77_v2]; exact zi_add _ _) (by decide) rfl (fun ls hl => ?_)
        refine lv_goto (tgt := 46) hx hb dX9_isRow_80 (by decide) ?_
        cases hm
        exact k0 rfl _ _ _ hP hD hS (lv_sub hl [2, 3, 4, 5, 1, 0] rfl)
set_option maxHeartbeats 4000000 in
theorem l_X9_isRow_46 (F : zF p s m args meth c A gw cX9_isRow 8 (some .boolean) wsX9_isRow yX9_isRow) (h : Nat → Nat)  (x0 : Int) (x2 : Int) (x4 : Int) (x5 : Int) (n : Nat) (a : Int × Int) (u : Nat × (Int × Int)) (hm : zloop (fun a => m_X9_isRow_46 x0 x2 x4 x5 a.1 a.2) n a = some u) (k1 : u.1 = 1 → ∀ (H : Heap) (locs : List Loc) (ls : Array Slot), va_P gw.1 vwCl [] H → va_D A [] → va_S A s.heap H locs → lv_has ls 8 [(6, .int (zi (u.2.1)))] → W p l e rmX9_isRow s m args below meth c H locs 0 0 Q (F0 m 83 ls [])) (H : Heap) (locs : List Loc) (ls : Array Slot) (hP : va_P gw.1 vwCl [] H) (hD : va_D A []) (hS : va_S A s.heap H locs) (hl : lv_has ls 8 [(0, .long (zl x0)), (2, .int (zi x2)), (4, .int (zi x4)), (5, .int (zi x5)), (6, .int (zi (a.1))), (7, .int (zi (a.2)))]) : W p l e rmX9_isRow s m args below meth c H locs 0 0 Q (F0 m 46 ls []) := by
  refine zloop_ind (P := fun a => ∀ (H : Heap) (locs : List Loc) (ls : Array Slot), va_P gw.1 vwCl [] H → va_D A [] → va_S A s.heap H locs → lv_has ls 8 [(0, .long (zl x0)), (2, .int (zi x2)), (4, .int (zi x4)), (5, .int (zi x5)), (6, .int (zi (a.1))), (7, .int (zi (a.2)))] → W p l e rmX9_isRow s m args below meth c H locs 0 0 Q (F0 m 46 ls [])) (K := fun w => (w.1 = 1 → ∀ (H : Heap) (locs : List Loc) (ls : Array Slot), va_P gw.1 vwCl [] H → va_D A [] → va_S A s.heap H locs → lv_has ls 8 [(6, .int (zi (w.2.1)))] → W p l e rmX9_isRow s m args below meth c H locs 0 0 Q (F0 m 83 ls []))) (fun a w hb h0 hk H locs ls hP hD hS hl => ?_) n a u hm (fun _ => k1) H locs ls hP hD hS hl
  exact w_X9_isRow_46 F h  x0 x2 x4 x5 a.1 a.2 w hb H locs ls hP hD hS hl (fun z H locs ls hP hD hS hl => h0 z H locs ls hP hD hS hl) (fun z => (hk (by rw [z]; decide)) z)
def m_X9_isRow_41 (x0 : Int) (x2 : Int) (x4 : Int) (x5 : Int) (t0 : Int) : Option (Int) :=
  (zloop (fun a => m_X9_isRow_46 x0 x2 x4 x5 a.1 a.2) FU (t0, 0)).bind fun (t_46, x6_46, x7_46) =>
  gd (x6_46 = 0 ∨ x6_46 = 1) <|
  some x6_46
set_option maxHeartbeats 4000000 in
set_option maxRecDepth 100000 in
theorem w_X9_isRow_41 (F : zF p s m args meth c A gw cX9_isRow 8 (some .boolean) wsX9_isRow yX9_isRow) (h : Nat → Nat) (x0 : Int) (x2 : Int) (x4 : Int) (x5 : Int) (t0 : Int) (u : Int) (hm : m_X9_isRow_41 x0 x2 x4 x5 t0 = some u) (H : Heap) (locs : List Loc) (ls : Array Slot) (hP : va_P gw.1 vwCl [] H) (hD : va_D A []) (hS : va_S A s.heap H locs) (hl : lv_has ls 8 [(0, .long (zl x0)), (2, .int (zi x2)), (4, .int (zi x4)), (5, .int (zi x5))]) : W p l e rmX9_isRow s m args below meth c H locs 0 0 (MQ below (zQ gw (some (.int (zi u))) [] A) args s 0 0 A) (F0 m 41 ls [.int (zi t0)]) := by
  obtain ⟨hx, hb, hml, hr, hown, hts, hlk, hK, hA, hnm⟩ := id F
  have hown : s.vm.findClass RX9 = some m.cls := hown
  unfold m_X9_isRow_41 at hm
  refine lv_istore (lv' := [(6, .int (zi t0)), (0, .long (zl x0)), (2, .int (zi x2)), (4, .int (zi x4)), (5, .int (zi x5))]) hx hb dX9_isRow_41 hl (by decide) rfl (fun ls hl => ?_)
  refine lv_iconst (v := zi 0) hx hb dX9_isRow_43 rfl ?_
  refine lv_istore (lv' := [(7, .int (zi 0)), (6, .int (zi t0)), (0, .long (zl x0)), (2, .int (zi x2)), (4, .int (zi x4)), (5, .int (zi x5))]) hx hb dX9_isRow_44 hl (by decide) rfl (fun ls hl => ?_)
  obtain ⟨u_46, hu_46, hm⟩ := bd_e hm
  obtain ⟨t_46, x6_46, x7_46⟩ := u_46
  refine l_X9_isRow_46 F h  x0 x2 x4 x5 FU (t0, 0) _ hu_46 (fun z_46 H locs ls hP hD hS hl => ?_) _ _ _ hP hD hS (lv_sub hl [2, 3, 4, 5, 1, 0] rfl)
  have hP : va_P gw.1 vwCl [] H := hP
  have hD : va_D A [] := hD
  have hl : lv_has ls 8 [(6, .int (zi x6_46))] := hl
  refine lv_iload hx hb dX9_isRow_83 (lv_at hl 0 rfl) ?_
  obtain ⟨g_85, hm⟩ := gd_e hm
  cases hm
  exact z_zret hx hb hr hlk hP hD hS g_85 dX9_isRow_85
def m_X9_isRow_40 (x0 : Int) (x2 : Int) (x4 : Int) (x5 : Int) : Option (Int) :=
  m_X9_isRow_41 x0 x2 x4 x5 0
set_option maxHeartbeats 4000000 in
set_option maxRecDepth 100000 in
theorem w_X9_isRow_40 (F : zF p s m args meth c A gw cX9_isRow 8 (some .boolean) wsX9_isRow yX9_isRow) (h : Nat → Nat) (x0 : Int) (x2 : Int) (x4 : Int) (x5 : Int) (u : Int) (hm : m_X9_isRow_40 x0 x2 x4 x5 = some u) (H : Heap) (locs : List Loc) (ls : Array Slot) (hP : va_P gw.1 vwCl [] H) (hD : va_D A []) (hS : va_S A s.heap H locs) (hl : lv_has ls 8 [(0, .long (zl x0)), (2, .int (zi x2)), (4, .int (zi x4)), (5, .int (zi x5))]) : W p l e rmX9_isRow s m args below meth c H locs 0 0 (MQ below (zQ gw (some (.int (zi u))) [] A) args s 0 0 A) (F0 m 40 ls []) := by
  obtain ⟨hx, hb, hml, hr, hown, hts, hlk, hK, hA, hnm⟩ := id F
  have hown : s.vm.findClass RX9 = some m.cls := hown
  unfold m_X9_isRow_40 at hm
  refine lv_iconst (v := zi 0) hx hb dX9_isRow_40 rfl ?_
  exact w_X9_isRow_41 F h x0 x2 x4 x5 0 _ hm _ _ _ hP hD hS hl
def m_X9_isRow (x0 : Int) (x2 : Int) (x3 : Int) (x4 : Int) : Option (Int) :=
  (m_X9_sizeOf x0 x2).bind fun r_2 =>
  gd (inL x0) <|
  if x0 ≤ 0 then
    m_X9_isRow_40 x0 x2 x4 r_2
  else
    gd (inI r_2) <|
    if r_2 < 1 then
      m_X9_isRow_40 x0 x2 x4 r_2
    else
      gd (inI x3) <|
      if x3 < r_2 then
        m_X9_isRow_40 x0 x2 x4 r_2
      else
        gd (0 ≤ (x2 * r_2) ∧ (x2 * r_2) < 64) <|
        gd (inL (x0 / 2 ^ Int.toNat (x2 * r_2))) <|
        if (x0 / 2 ^ Int.toNat (x2 * r_2)) = 0 then
          m_X9_isRow_41 x0 x2 x4 r_2 1
        else
          m_X9_isRow_40 x0 x2 x4 r_2
set_option maxHeartbeats 4000000 in
set_option maxRecDepth 100000 in
theorem w_X9_isRow (F : zF p s m args meth c A gw cX9_isRow 8 (some .boolean) wsX9_isRow yX9_isRow) (h : Nat → Nat) (x0 : Int) (x2 : Int) (x3 : Int) (x4 : Int) (u : Int) (hm : m_X9_isRow x0 x2 x3 x4 = some u) (H : Heap) (locs : List Loc) (ls : Array Slot) (hP : va_P gw.1 vwCl [] H) (hD : va_D A []) (hS : va_S A s.heap H locs) (hl : lv_has ls 8 [(0, .long (zl x0)), (2, .int (zi x2)), (3, .int (zi x3)), (4, .int (zi x4))]) : W p l e rmX9_isRow s m args below meth c H locs 0 0 (MQ below (zQ gw (some (.int (zi u))) [] A) args s 0 0 A) (F0 m 0 ls []) := by
  obtain ⟨hx, hb, hml, hr, hown, hts, hlk, hK, hA, hnm⟩ := id F
  have hown : s.vm.findClass RX9 = some m.cls := hown
  unfold m_X9_isRow at hm
  refine lv_lload_n hx hb dX9_isRow_0 rfl (lv_at hl 0 rfl) ?_
  refine lv_iload_n hx hb dX9_isRow_1 rfl (lv_at hl 1 rfl) ?_
  obtain ⟨r_2, hr_2, hm⟩ := bd_e hm
  refine z_callS (As := [.long (zl x0), .int (zi x2)]) (rest := []) (wr := []) (ws' := []) ⟨hx, hb, hml, hown, hts⟩ (c_X9_sizeOf l gw h x0 x2 r_2 hr_2 H.size) (va_cwS 2 hts gX9_isRow_X9_sizeOf rfl rfl rfl (by decide +kernel) ⟨Nat.le_of_ble_eq_true rfl, Nat.le_of_ble_eq_true rfl⟩) hK hP hD hS hA [] [] [] (by decide) rfl rfl (by decide) (by decide) rfl (by decide) rfl hl.1 (Nat.le_of_ble_eq_true rfl) dX9_isRow_2 ⟨Nat.zero_le _, Nat.zero_le _⟩ rfl (fun H locs hP hD hS => ?_)
  have hP : va_P gw.1 vwCl [] H := hP
  have hD : va_D A [] := hD
  refine W.eq (g2 := F0 m 5 ls [.int (zi r_2)]) rfl ?_
  refine lv_istore (lv' := [(5, .int (zi r_2)), (0, .long (zl x0)), (2, .int (zi x2)), (3, .int (zi x3)), (4, .int (zi x4))]) hx hb dX9_isRow_5 hl (by decide) rfl (fun ls hl => ?_)
  refine lv_lload_n hx hb dX9_isRow_7 rfl (lv_at hl 1 rfl) ?_
  refine lv_lconst (v := zl 0) hx hb dX9_isRow_8 (by decide) ?_
  obtain ⟨g_9, hm⟩ := gd_e hm
  refine z_lcmp_le (tgt := 40) hx hb g_9 (by decide) dX9_isRow_9 dX9_isRow_10 (by decide) (fun c_9 => ?_) (fun c_9 => ?_)
  · have hm := if_p hm c_9
    exact w_X9_isRow_40 F h x0 x2 x4 r_2 _ hm _ _ _ hP hD hS (lv_sub hl [1, 2, 4, 0] rfl)
  · have hm := if_n hm c_9
    refine lv_iload hx hb dX9_isRow_13 (lv_at hl 0 rfl) ?_
    refine lv_iconst (v := zi 1) hx hb dX9_isRow_15 rfl ?_
    obtain ⟨g_16, hm⟩ := gd_e hm
    refine z_icmp_lt (tgt := 40) hx hb g_16 (by decide) dX9_isRow_16 (by decide) (fun c_16 => ?_) (fun c_16 => ?_)
    · have hm := if_p hm c_16
      exact w_X9_isRow_40 F h x0 x2 x4 r_2 _ hm _ _ _ hP hD hS (lv_sub hl [1, 2, 4, 0] rfl)
    · have hm := if_n hm c_16
      refine lv_iload hx hb dX9_isRow_19 (lv_at hl 0 rfl) ?_
      refine lv_iload_n hx hb dX9_isRow_21 rfl (lv_at hl 3 rfl) ?_
      obtain ⟨g_22, hm⟩ := gd_e hm
      refine z_icmp_gt (tgt := 40) hx hb g_16 g_22 dX9_isRow_22 (by decide) (fun c_22 => ?_) (fun c_22 => ?_)
      · have hm := if_p hm c_22
        exact w_X9_isRow_40 F h x0 x2 x4 r_2 _ hm _ _ _ hP hD hS (lv_sub hl [1, 2, 4, 0] rfl)
      · have hm := if_n hm c_22
        refine lv_lload_n hx hb dX9_isRow_25 rfl (lv_at hl 1 rfl) ?_
        refine lv_iload_n hx hb dX9_isRow_26 rfl (lv_at hl 2 rfl) ?_
        refine lv_iload hx hb dX9_isRow_27 (lv_at hl 0 rfl) ?_
        refine z_imul hx hb dX9_isRow_29 ?_
        obtain ⟨g_30, hm⟩ := gd_e hm
        refine z_lshr hx hb ⟨g_9, g_30⟩ dX9_isRow_30 ?_
        refine lv_lconst (v := zl 0) hx hb dX9_isRow_31 (by decide) ?_
        obtain ⟨g_32, hm⟩ := gd_e hm
        refine z_lcmp_ne (tgt := 40) hx hb g_32 (by decide) dX9_isRow_32 dX9_isRow_33 (by decide) (fun c_32 => ?_) (fun c_32 => ?_)
        · have hm := if_n hm c_32
          exact w_X9_isRow_40 F h x0 x2 x4 r_2 _ hm _ _ _ hP hD hS (lv_sub hl [1, 2, 4, 0] rfl)
        · have hm := if_p hm c_32
          refine lv_iconst (v := zi 1) hx hb dX9_isRow_36 rfl ?_
          refine lv_goto (tgt := 41) hx hb dX9_isRow_37 (by decide) ?_
          exact w_X9_isRow_41 F h x0 x2 x4 r_2 1 _ hm _ _ _ hP hD hS (lv_sub hl [1, 2, 4, 0] rfl)
theorem c_X9_isRow (l : Launch) (gw : zG) (h : Nat → Nat) (x0 : Int) (x2 : Int) (x3 : Int) (x4 : Int) (u : Int) (hm : m_X9_isRow x0 x2 x3 x4 = some u) (sz : Nat) : Met l yX9_isRow wsX9_isRow rmX9_isRow (va_Pc [.long (zl x0), .int (zi x2), .int (zi x3), .int (zi x4)] (zPre gw [] sz)) (zQ gw (some (.int (zi u))) [] (va_A [] sz)) 0 0 (va_A [] sz) :=
  z_met (by decide) rfl (Nat.le_of_ble_eq_true rfl) rfl (fun p e s m args below meth c A F hsz ls hl hP hD => w_X9_isRow F h x0 x2 x3 x4 u hm s.heap [] ls hP hD va_S.rf hl)
abbrev rmX9_spelling : Room := { frames := 3, cells := 0, slots := 0, locals := 73 }
theorem iX9_spelling_X9 : ∀ w ∈ wsX90, w ∈ wsX9_spelling := by decide +kernel
def m_X9_spelling_38 (m_code : Int) (m_spellMany : Nat → Int) (m_spellPrice : Nat → Int) (m_spell : Nat → Int) (m_isRead : Int) (m_isMade : Int) : Option (Int × Int × (Nat → Int) × (Nat → Int) × (Nat → Int) × Int × Int) :=
  (m_X9_fail m_code).bind fun (r_39, m_code_39) =>
  some (r_39, m_code_39, m_spellMany, m_spellPrice, m_spell, m_isRead, m_isMade)
set_option maxHeartbeats 4000000 in
set_option maxRecDepth 100000 in
theorem w_X9_spelling_38 (F : zF p s m args meth c A gw cX9_spelling 7 (some .int) wsX9_spelling yX9_spelling) (h : Nat → Nat) (m_words : Int) (m_endings : Int) (m_slip : Int) (m_guess : Int) (m_base : Int) (m_n : Int) (m_fixedMany : Int) (m_acts : Int) (m_kept : Int) (m_parts : Int) (m_total : Int) (m_found : Int) (m_from0 : Int) (m_kind0 : Int) (m_choices : Int) (m_code : Int) (m_spellMany : Nat → Int) (m_spellPrice : Nat → Int) (m_spell : Nat → Int) (m_isRead : Int) (m_isMade : Int) (u : Int × Int × (Nat → Int) × (Nat → Int) × (Nat → Int) × Int × Int) (hm : m_X9_spelling_38 m_code m_spellMany m_spellPrice m_spell m_isRead m_isMade = some u) (H : Heap) (locs : List Loc) (ls : Array Slot) (hP : va_P gw.1 vwCl [(zOX9 h m_code m_words m_endings m_slip m_guess m_base m_n m_fixedMany m_acts m_kept m_isRead m_isMade m_parts m_total m_found m_from0 m_kind0 m_choices), (zA gw (h 1001) 50 m_spellMany), (zA gw (h 1002) 150 m_spellPrice), (zB gw (h 1003) 150 m_spell)] H) (hD : va_D A [(zOX9 h m_code m_words m_endings m_slip m_guess m_base m_n m_fixedMany m_acts m_kept m_isRead m_isMade m_parts m_total m_found m_from0 m_kind0 m_choices), (zA gw (h 1001) 50 m_spellMany), (zA gw (h 1002) 150 m_spellPrice), (zB gw (h 1003) 150 m_spell)]) (hS : va_S A s.heap H locs) (hl : lv_has ls 7 [(0, .ref (h 9))]) : W p l e rmX9_spelling s m args below meth c H locs 0 0 (MQ below (zQ gw (some (.int (zi u.1))) [(zOX9 h (u.2.1) m_words m_endings m_slip m_guess m_base m_n m_fixedMany m_acts m_kept (u.2.2.2.2.2.1) (u.2.2.2.2.2.2) m_parts m_total m_found m_from0 m_kind0 m_choices), (zA gw (h 1001) 50 (u.2.2.1)), (zA gw (h 1002) 150 (u.2.2.2.1)), (zB gw (h 1003) 150 (u.2.2.2.2.1))] A) args s 0 0 A) (F0 m 38 ls []) := by
  obtain ⟨hx, hb, hml, hr, hown, hts, hlk, hK, hA, hnm⟩ := id F
  have hown : s.vm.findClass RX9 = some m.cls := hown
  unfold m_X9_spelling_38 at hm
  refine lv_aload_n hx hb dX9_spelling_38 rfl (lv_at hl 0 rfl) ?_
  obtain ⟨u_39, hu_39, hm⟩ := bd_e hm
  obtain ⟨r_39, m_code_39⟩ := u_39
  refine z_callV (As := []) (rest := []) (wr := [(zA gw (h 1001) 50 m_spellMany), (zA gw (h 1002) 150 m_spellPrice), (zB gw (h 1003) 150 m_spell)]) (ws' := [(zOX9 h m_code_39 m_words m_endings m_slip m_guess m_base m_n m_fixedMany m_acts m_kept m_isRead m_isMade m_parts m_total m_found m_from0 m_kind0 m_choices), (zA gw (h 1001) 50 m_spellMany), (zA gw (h 1002) 150 m_spellPrice), (zB gw (h 1003) 150 m_spell)]) ⟨hx, hb, hml, hown, hts⟩ (c_X9_fail l gw h m_words m_endings m_slip m_guess m_base m_n m_fixedMany m_acts m_kept m_isRead m_isMade m_parts m_total m_found m_from0 m_kind0 m_choices m_code _ hu_39 H.size) (cwV 0 hts gX9_spelling_X9_fail rfl rfl rfl (by decide +kernel) ⟨Nat.le_of_ble_eq_true rfl, Nat.le_of_ble_eq_true rfl⟩) hK hP hD hS hA [0] [1, 2, 3] [3, 0, 1, 2] (by decide) rfl rfl (by decide) (by decide) rfl (by decide) 0 9 rfl rfl rfl rfl hl.1 (Nat.le_of_ble_eq_true rfl) dX9_spelling_39 ⟨Nat.zero_le _, Nat.zero_le _⟩ rfl (fun H locs hP hD hS => ?_)
  have hP : va_P gw.1 vwCl [(zOX9 h m_code_39 m_words m_endings m_slip m_guess m_base m_n m_fixedMany m_acts m_kept m_isRead m_isMade m_parts m_total m_found m_from0 m_kind0 m_choices), (zA gw (h 1001) 50 m_spellMany), (zA gw (h 1002) 150 m_spellPrice), (zB gw (h 1003) 150 m_spell)] H := hP
  have hD : va_D A [(zOX9 h m_code_39 m_words m_endings m_slip m_guess m_base m_n m_fixedMany m_acts m_kept m_isRead m_isMade m_parts m_total m_found m_from0 m_kind0 m_choices), (zA gw (h 1001) 50 m_spellMany), (zA gw (h 1002) 150 m_spellPrice), (zB gw (h 1003) 150 m_spell)] := hD
  refine W.eq (g2 := F0 m 42 ls [.int (zi r_39)]) rfl ?_
  cases hm
  exact z_iret hx hb hr hlk hP hD hS dX9_spelling_42
def m_X9_spelling_63 (x1 : Int) (x2 : Int) (x4 : Int) (x5 : Int) (x6 : Int) (m_code : Int) (m_spellMany : Nat → Int) (m_spellPrice : Nat → Int) (m_spell : Nat → Int) (m_isRead : Int) (m_isMade : Int) : Option (Nat × (Int × Int)) :=
  gd (0 ≤ x1 ∧ x1 < 50) <|
  gd (inI x6) <|
  gd (inI (m_spellMany (Int.toNat x1))) <|
  if (m_spellMany (Int.toNat x1)) ≤ x6 then
    some (1, (x5, x6))
  else
    gd (0 ≤ ((3 * x1) + x6) ∧ ((3 * x1) + x6) < 150) <|
    gd (inL (m_spell (Int.toNat ((3 * x1) + x6)))) <|
    gd (inL x2) <|
    if (m_spell (Int.toNat ((3 * x1) + x6))) = x2 then
      vl (x6 + 1) fun x6_93_v2 =>
      some (0, (1, x6_93_v2))
    else
      vl (x6 + 1) fun x6_93 =>
      some (0, (x5, x6_93))
set_option maxHeartbeats 4000000 in
set_option maxRecDepth 100000 in
theorem w_X9_spelling_63 (F : zF p s m args meth c A gw cX9_spelling 7 (some .int) wsX9_spelling yX9_spelling) (h : Nat → Nat) (m_words : Int) (m_endings : Int) (m_slip : Int) (m_guess : Int) (m_base : Int) (m_n : Int) (m_fixedMany : Int) (m_acts : Int) (m_kept : Int) (m_parts : Int) (m_total : Int) (m_found : Int) (m_from0 : Int) (m_kind0 : Int) (m_choices : Int)  (x1 : Int) (x2 : Int) (x4 : Int) (x5 : Int) (x6 : Int) (m_code : Int) (m_spellMany : Nat → Int) (m_spellPrice : Nat → Int) (m_spell : Nat → Int) (m_isRead : Int) (m_isMade : Int) (u : Nat × (Int × Int)) (hm : m_X9_spelling_63 x1 x2 x4 x5 x6 m_code m_spellMany m_spellPrice m_spell m_isRead m_isMade = some u) (H : Heap) (locs : List Loc) (ls : Array Slot) (hP : va_P gw.1 vwCl [(zOX9 h m_code m_words m_endings m_slip m_guess m_base m_n m_fixedMany m_acts m_kept m_isRead m_isMade m_parts m_total m_found m_from0 m_kind0 m_choices), (zA gw (h 1001) 50 m_spellMany), (zA gw (h 1002) 150 m_spellPrice), (zB gw (h 1003) 150 m_spell)] H) (hD : va_D A [(zOX9 h m_code m_words m_endings m_slip m_guess m_base m_n m_fixedMany m_acts m_kept m_isRead m_isMade m_parts m_total m_found m_from0 m_kind0 m_choices), (zA gw (h 1001) 50 m_spellMany), (zA gw (h 1002) 150 m_spellPrice), (zB gw (h 1003) 150 m_spell)]) (hS : va_S A s.heap H locs) (hl : lv_has ls 7 [(0, .ref (h 9)), (1, .int (zi x1)), (2, .long (zl x2)), (4, .int (zi x4)), (5, .int (zi x5)), (6, .int (zi x6))]) (k0 : u.1 = 0 → ∀ (H : Heap) (locs : List Loc) (ls : Array Slot), va_P gw.1 vwCl [(zOX9 h m_code m_words m_endings m_slip m_guess m_base m_n m_fixedMany m_acts m_kept m_isRead m_isMade m_parts m_total m_found m_from0 m_kind0 m_choices), (zA gw (h 1001) 50 m_spellMany), (zA gw (h 1002) 150 m_spellPrice), (zB gw (h 1003) 150 m_spell)] H → va_D A [(zOX9 h m_code m_words m_endings m_slip m_guess m_base m_n m_fixedMany m_acts m_kept m_isRead m_isMade m_parts m_total m_found m_from0 m_kind0 m_choices), (zA gw (h 1001) 50 m_spellMany), (zA gw (h 1002) 150 m_spellPrice), (zB gw (h 1003) 150 m_spell)] → va_S A s.heap H locs → lv_has ls 7 [(0, .ref (h 9)), (1, .int (zi x1)), (2, .long (zl x2)), (4, .int (zi x4)), (5, .int (zi (u.2.1))), (6, .int (zi (u.2.2)))] → W p l e rmX9_spelling s m args below meth c H locs 0 0 Q (F0 m 63 ls [])) (k1 : u.1 = 1 → ∀ (H : Heap) (locs : List Loc) (ls : Array Slot), va_P gw.1 vwCl [(zOX9 h m_code m_words m_endings m_slip m_guess m_base m_n m_fixedMany m_acts m_kept m_isRead m_isMade m_parts m_total m_found m_from0 m_kind0 m_choices), (zA gw (h 1001) 50 m_spellMany), (zA gw (h 1002) 150 m_spellPrice), (zB gw (h 1003) 150 m_spell)] H → va_D A [(zOX9 h m_code m_words m_endings m_slip m_guess m_base m_n m_fixedMany m_acts m_kept m_isRead m_isMade m_parts m_total m_found m_from0 m_kind0 m_choices), (zA gw (h 1001) 50 m_spellMany), (zA gw (h 1002) 150 m_spellPrice), (zB gw (h 1003) 150 m_spell)] → va_S A s.heap H locs → lv_has ls 7 [(0, .ref (h 9)), (1, .int (zi x1)), (2, .long (zl x2)), (4, .int (zi x4)), (5, .int (zi (u.2.1)))] → W p l e rmX9_spelling s m args below meth c H locs 0 0 Q (F0 m 99 ls [])) : W p l e rmX9_spelling s m args below meth c H locs 0 0 Q (F0 m 63 ls []) := by
  obtain ⟨hx, hb, hml, hr, hown, hts, hlk, hK, hA, hnm⟩ := id F
  have hown : s.vm.findClass RX9 = some m.cls := hown
  unfold m_X9_spelling_63 at hm
  refine lv_iload hx hb dX9_spelling_63 (lv_at hl 5 rfl) ?_
  refine lv_aload_n hx hb dX9_spelling_65 rfl (lv_at hl 0 rfl) ?_
  refine va_get (D := gw.1) (ci := 9) (v := .ref (h 1001)) (C := RX9) (T := TX9) (N := 61) hx hb hts iX9_spelling_X9 hown hK.1 hP 0 rfl rfl 1 (by decide) (hts (.fieldLink RX9 9 "SoundLineModel" "spellMany" "[I") (by decide +kernel)) (fun _ h9 => h9) rfl dX9_spelling_66 ?_
  refine lv_iload_n hx hb dX9_spelling_69 rfl (lv_at hl 1 rfl) ?_
  obtain ⟨g_70, hm⟩ := gd_e hm
  refine z_iald hx hb hK hP 1 rfl g_70 (by decide) dX9_spelling_70 ?_
  obtain ⟨g_71, hm⟩ := gd_e hm
  obtain ⟨g_71_v2, hm⟩ := gd_e hm
  refine z_icmp_ge (tgt := 99) hx hb g_71 g_71_v2 dX9_spelling_71 (by decide) (fun c_71 => ?_) (fun c_71 => ?_)
  · have hm := if_p hm c_71
    cases hm
    exact k1 rfl _ _ _ hP hD hS (lv_sub hl [0, 1, 2, 3, 4] rfl)
  · have hm := if_n hm c_71
    refine lv_aload_n hx hb dX9_spelling_74 rfl (lv_at hl 0 rfl) ?_
    refine va_get (D := gw.1) (ci := 9) (v := .ref (h 1003)) (C := RX9) (T := TX9) (N := 61) hx hb hts iX9_spelling_X9 hown hK.1 hP 0 rfl rfl 3 (by decide) (hts (.fieldLink RX9 16 "SoundLineModel" "spell" "[J") (by decide +kernel)) (fun _ h9 => h9) rfl dX9_spelling_75 ?_
    refine lv_iconst (v := zi 3) hx hb dX9_spelling_78 rfl ?_
    refine lv_iload_n hx hb dX9_spelling_79 rfl (lv_at hl 1 rfl) ?_
    refine z_imul hx hb dX9_spelling_80 ?_
    refine lv_iload hx hb dX9_spelling_81 (lv_at hl 5 rfl) ?_
    refine z_iadd hx hb dX9_spelling_83 ?_
    obtain ⟨g_84, hm⟩ := gd_e hm
    refine z_lald hx hb hK hP 3 rfl g_84 (by decide) dX9_spelling_84 ?_
    refine lv_lload_n hx hb dX9_spelling_85 rfl (lv_at hl 2 rfl) ?_
    obtain ⟨g_86, hm⟩ := gd_e hm
    obtain ⟨g_86_v2, hm⟩ := gd_e hm
    refine z_lcmp_ne (tgt := 93) hx hb g_86 g_86_v2 dX9_spelling_86 dX9_spelling_87 (by decide) (fun c_86 => ?_) (fun c_86 => ?_)
    · have hm := if_n hm c_86
      obtain ⟨x6_93, e_x6_93, hm⟩ := vl_e hm
      refine lv_iinc (v := zi x6_93) (lv' := [(6, .int (zi x6_93)), (0, .ref (h 9)), (1, .int (zi x1)), (2, .long (zl x2)), (4, .int (zi x4)), (5, .int (zi x5))]) hx hb dX9_spelling_93 hl (k := 5) rfl (by rw [e_x6_93]; exact zi_add _ _) (by decide) rfl (fun ls hl => ?_)
      refine lv_goto (tgt := 63) hx hb dX9_spelling_96 (by decide) ?_
      cases hm
      exact k0 rfl _ _ _ hP hD hS (lv_sub hl [1, 2, 3, 4, 5, 0] rfl)
    · have hm := if_p hm c_86
      refine lv_iconst (v := zi 1) hx hb dX9_spelling_90 rfl ?_
      refine lv_istore (lv' := [(5, .int (zi 1)), (0, .ref (h 9)), (1, .int (zi x1)), (2, .long (zl x2)), (4, .int (zi x4)), (6, .int (zi x6))]) hx hb dX9_spelling_91 hl (by decide) rfl (fun ls hl => ?_)
      obtain ⟨x6_93_v2, e_x6_93_v2, hm⟩ := vl_e hm
      refine lv_iinc (v := zi x6_93_v2) (lv' := [(6, .int (zi x6_93_v2)), (5, .int (zi 1)), (0, .ref (h 9)), (1, .int (zi x1)), (2, .long (zl x2)), (4, .int (zi x4))]) hx hb dX9_spelling_93 hl (k := 5) rfl (by rw [e_x6_93_v2]; exact zi_add _ _) (by decide) rfl (fun ls hl => ?_)
      refine lv_goto (tgt := 63) hx hb dX9_spelling_96 (by decide) ?_
      cases hm
      exact k0 rfl _ _ _ hP hD hS (lv_sub hl [2, 3, 4, 5, 1, 0] rfl)
set_option maxHeartbeats 4000000 in
theorem l_X9_spelling_63 (F : zF p s m args meth c A gw cX9_spelling 7 (some .int) wsX9_spelling yX9_spelling) (h : Nat → Nat) (m_words : Int) (m_endings : Int) (m_slip : Int) (m_guess : Int) (m_base : Int) (m_n : Int) (m_fixedMany : Int) (m_acts : Int) (m_kept : Int) (m_parts : Int) (m_total : Int) (m_found : Int) (m_from0 : Int) (m_kind0 : Int) (m_choices : Int)  (x1 : Int) (x2 : Int) (x4 : Int) (m_code : Int) (m_spellMany : Nat → Int) (m_spellPrice : Nat → Int) (m_spell : Nat → Int) (m_isRead : Int) (m_isMade : Int) (n : Nat) (a : Int × Int) (u : Nat × (Int × Int)) (hm : zloop (fun a => m_X9_spelling_63 x1 x2 x4 a.1 a.2 m_code m_spellMany m_spellPrice m_spell m_isRead m_isMade) n a = some u) (k1 : u.1 = 1 → ∀ (H : Heap) (locs : List Loc) (ls : Array Slot), va_P gw.1 vwCl [(zOX9 h m_code m_words m_endings m_slip m_guess m_base m_n m_fixedMany m_acts m_kept m_isRead m_isMade m_parts m_total m_found m_from0 m_kind0 m_choices), (zA gw (h 1001) 50 m_spellMany), (zA gw (h 1002) 150 m_spellPrice), (zB gw (h 1003) 150 m_spell)] H → va_D A [(zOX9 h m_code m_words m_endings m_slip m_guess m_base m_n m_fixedMany m_acts m_kept m_isRead m_isMade m_parts m_total m_found m_from0 m_kind0 m_choices), (zA gw (h 1001) 50 m_spellMany), (zA gw (h 1002) 150 m_spellPrice), (zB gw (h 1003) 150 m_spell)] → va_S A s.heap H locs → lv_has ls 7 [(0, .ref (h 9)), (1, .int (zi x1)), (2, .long (zl x2)), (4, .int (zi x4)), (5, .int (zi (u.2.1)))] → W p l e rmX9_spelling s m args below meth c H locs 0 0 Q (F0 m 99 ls [])) (H : Heap) (locs : List Loc) (ls : Array Slot) (hP : va_P gw.1 vwCl [(zOX9 h m_code m_words m_endings m_slip m_guess m_base m_n m_fixedMany m_acts m_kept m_isRead m_isMade m_parts m_total m_found m_from0 m_kind0 m_choices), (zA gw (h 1001) 50 m_spellMany), (zA gw (h 1002) 150 m_spellPrice), (zB gw (h 1003) 150 m_spell)] H) (hD : va_D A [(zOX9 h m_code m_words m_endings m_slip m_guess m_base m_n m_fixedMany m_acts m_kept m_isRead m_isMade m_parts m_total m_found m_from0 m_kind0 m_choices), (zA gw (h 1001) 50 m_spellMany), (zA gw (h 1002) 150 m_spellPrice), (zB gw (h 1003) 150 m_spell)]) (hS : va_S A s.heap H locs) (hl : lv_has ls 7 [(0, .ref (h 9)), (1, .int (zi x1)), (2, .long (zl x2)), (4, .int (zi x4)), (5, .int (zi (a.1))), (6, .int (zi (a.2)))]) : W p l e rmX9_spelling s m args below meth c H locs 0 0 Q (F0 m 63 ls []) := by
  refine zloop_ind (P := fun a => ∀ (H : Heap) (locs : List Loc) (ls : Array Slot), va_P gw.1 vwCl [(zOX9 h m_code m_words m_endings m_slip m_guess m_base m_n m_fixedMany m_acts m_kept m_isRead m_isMade m_parts m_total m_found m_from0 m_kind0 m_choices), (zA gw (h 1001) 50 m_spellMany), (zA gw (h 1002) 150 m_spellPrice), (zB gw (h 1003) 150 m_spell)] H → va_D A [(zOX9 h m_code m_words m_endings m_slip m_guess m_base m_n m_fixedMany m_acts m_kept m_isRead m_isMade m_parts m_total m_found m_from0 m_kind0 m_choices), (zA gw (h 1001) 50 m_spellMany), (zA gw (h 1002) 150 m_spellPrice), (zB gw (h 1003) 150 m_spell)] → va_S A s.heap H locs → lv_has ls 7 [(0, .ref (h 9)), (1, .int (zi x1)), (2, .long (zl x2)), (4, .int (zi x4)), (5, .int (zi (a.1))), (6, .int (zi (a.2)))] → W p l e rmX9_spelling s m args below meth c H locs 0 0 Q (F0 m 63 ls [])) (K := fun w => (w.1 = 1 → ∀ (H : Heap) (locs : List Loc) (ls : Array Slot), va_P gw.1 vwCl [(zOX9 h m_code m_words m_endings m_slip m_guess m_base m_n m_fixedMany m_acts m_kept m_isRead m_isMade m_parts m_total m_found m_from0 m_kind0 m_choices), (zA gw (h 1001) 50 m_spellMany), (zA gw (h 1002) 150 m_spellPrice), (zB gw (h 1003) 150 m_spell)] H → va_D A [(zOX9 h m_code m_words m_endings m_slip m_guess m_base m_n m_fixedMany m_acts m_kept m_isRead m_isMade m_parts m_total m_found m_from0 m_kind0 m_choices), (zA gw (h 1001) 50 m_spellMany), (zA gw (h 1002) 150 m_spellPrice), (zB gw (h 1003) 150 m_spell)] → va_S A s.heap H locs → lv_has ls 7 [(0, .ref (h 9)), (1, .int (zi x1)), (2, .long (zl x2)), (4, .int (zi x4)), (5, .int (zi (w.2.1)))] → W p l e rmX9_spelling s m args below meth c H locs 0 0 Q (F0 m 99 ls []))) (fun a w hb h0 hk H locs ls hP hD hS hl => ?_) n a u hm (fun _ => k1) H locs ls hP hD hS hl
  exact w_X9_spelling_63 F h m_words m_endings m_slip m_guess m_base m_n m_fixedMany m_acts m_kept m_parts m_total m_found m_from0 m_kind0 m_choices  x1 x2 x4 a.1 a.2 m_code m_spellMany m_spellPrice m_spell m_isRead m_isMade w hb H locs ls hP hD hS hl (fun z H locs ls hP hD hS hl => h0 z H locs ls hP hD hS hl) (fun z => (hk (by rw [z]; decide)) z)
def m_X9_spelling_58 (x1 : Int) (x2 : Int) (x4 : Int) (t0 : Int) (m_code : Int) (m_spellMany : Nat → Int) (m_spellPrice : Nat → Int) (m_spell : Nat → Int) (m_isRead : Int) (m_isMade : Int) : Option (Int × Int × (Nat → Int) × (Nat → Int) × (Nat → Int) × Int × Int) :=
  (zloop (fun a => m_X9_spelling_63 x1 x2 x4 a.1 a.2 m_code m_spellMany m_spellPrice m_spell m_isRead m_isMade) FU (t0, 0)).bind fun (t_63, x5_63, x6_63) =>
  gd (inI x5_63) <|
  if x5_63 = 0 then
    gd (0 ≤ x1 ∧ x1 < 50) <|
    gd (0 ≤ ((3 * x1) + (m_spellMany (Int.toNat x1))) ∧ ((3 * x1) + (m_spellMany (Int.toNat x1))) < 150) <|
    vl (uz m_spell (Int.toNat ((3 * x1) + (m_spellMany (Int.toNat x1)))) x2) fun m_spell_121 =>
    gd (0 ≤ x1 ∧ x1 < 50) <|
    gd (0 ≤ ((3 * x1) + (m_spellMany (Int.toNat x1))) ∧ ((3 * x1) + (m_spellMany (Int.toNat x1))) < 150) <|
    vl (uz m_spellPrice (Int.toNat ((3 * x1) + (m_spellMany (Int.toNat x1)))) x4) fun m_spellPrice_138 =>
    gd (0 ≤ x1 ∧ x1 < 50) <|
    gd (0 ≤ x1 ∧ x1 < 50) <|
    vl (uz m_spellMany (Int.toNat x1) ((m_spellMany (Int.toNat x1)) + 1)) fun m_spellMany_148 =>
    (m_X9_changed m_isRead m_isMade).bind fun (m_isRead_150, m_isMade_150) =>
    gd (0 ≤ x1 ∧ x1 < 50) <|
    some ((m_spellMany_148 (Int.toNat x1)), m_code, m_spellMany_148, m_spellPrice_138, m_spell_121, m_isRead_150, m_isMade_150)
  else
    some ((-1), m_code, m_spellMany, m_spellPrice, m_spell, m_isRead, m_isMade)
set_option maxHeartbeats 4000000 in
set_option maxRecDepth 100000 in
theorem w_X9_spelling_58 (F : zF p s m args meth c A gw cX9_spelling 7 (some .int) wsX9_spelling yX9_spelling) (h : Nat → Nat) (m_words : Int) (m_endings : Int) (m_slip : Int) (m_guess : Int) (m_base : Int) (m_n : Int) (m_fixedMany : Int) (m_acts : Int) (m_kept : Int) (m_parts : Int) (m_total : Int) (m_found : Int) (m_from0 : Int) (m_kind0 : Int) (m_choices : Int) (x1 : Int) (x2 : Int) (x4 : Int) (t0 : Int) (m_code : Int) (m_spellMany : Nat → Int) (m_spellPrice : Nat → Int) (m_spell : Nat → Int) (m_isRead : Int) (m_isMade : Int) (u : Int × Int × (Nat → Int) × (Nat → Int) × (Nat → Int) × Int × Int) (hm : m_X9_spelling_58 x1 x2 x4 t0 m_code m_spellMany m_spellPrice m_spell m_isRead m_isMade = some u) (H : Heap) (locs : List Loc) (ls : Array Slot) (hP : va_P gw.1 vwCl [(zOX9 h m_code m_words m_endings m_slip m_guess m_base m_n m_fixedMany m_acts m_kept m_isRead m_isMade m_parts m_total m_found m_from0 m_kind0 m_choices), (zA gw (h 1001) 50 m_spellMany), (zA gw (h 1002) 150 m_spellPrice), (zB gw (h 1003) 150 m_spell)] H) (hD : va_D A [(zOX9 h m_code m_words m_endings m_slip m_guess m_base m_n m_fixedMany m_acts m_kept m_isRead m_isMade m_parts m_total m_found m_from0 m_kind0 m_choices), (zA gw (h 1001) 50 m_spellMany), (zA gw (h 1002) 150 m_spellPrice), (zB gw (h 1003) 150 m_spell)]) (hS : va_S A s.heap H locs) (hl : lv_has ls 7 [(0, .ref (h 9)), (1, .int (zi x1)), (2, .long (zl x2)), (4, .int (zi x4))]) : W p l e rmX9_spelling s m args below meth c H locs 0 0 (MQ below (zQ gw (some (.int (zi u.1))) [(zOX9 h (u.2.1) m_words m_endings m_slip m_guess m_base m_n m_fixedMany m_acts m_kept (u.2.2.2.2.2.1) (u.2.2.2.2.2.2) m_parts m_total m_found m_from0 m_kind0 m_choices), (zA gw (h 1001) 50 (u.2.2.1)), (zA gw (h 1002) 150 (u.2.2.2.1)), (zB gw (h 1003) 150 (u.2.2.2.2.1))] A) args s 0 0 A) (F0 m 58 ls [.int (zi t0)]) := by
  obtain ⟨hx, hb, hml, hr, hown, hts, hlk, hK, hA, hnm⟩ := id F
  have hown : s.vm.findClass RX9 = some m.cls := hown
  unfold m_X9_spelling_58 at hm
  refine lv_istore (lv' := [(5, .int (zi t0)), (0, .ref (h 9)), (1, .int (zi x1)), (2, .long (zl x2)), (4, .int (zi x4))]) hx hb dX9_spelling_58 hl (by decide) rfl (fun ls hl => ?_)
  refine lv_iconst (v := zi 0) hx hb dX9_spelling_60 rfl ?_
  refine lv_istore (lv' := [(6, .int (zi 0)), (5, .int (zi t0)), (0, .ref (h 9)), (1, .int (zi x1)), (2, .long (zl x2)), (4, .int (zi x4))]) hx hb dX9_spelling_61 hl (by decide) rfl (fun ls hl => ?_)
  obtain ⟨u_63, hu_63, hm⟩ := bd_e hm
  obtain ⟨t_63, x5_63, x6_63⟩ := u_63
  refine l_X9_spelling_63 F h m_words m_endings m_slip m_guess m_base m_n m_fixedMany m_acts m_kept m_parts m_total m_found m_from0 m_kind0 m_choices  x1 x2 x4 m_code m_spellMany m_spellPrice m_spell m_isRead m_isMade FU (t0, 0) _ hu_63 (fun z_63 H locs ls hP hD hS hl => ?_) _ _ _ hP hD hS (lv_sub hl [2, 3, 4, 5, 1, 0] rfl)
  have hP : va_P gw.1 vwCl [(zOX9 h m_code m_words m_endings m_slip m_guess m_base m_n m_fixedMany m_acts m_kept m_isRead m_isMade m_parts m_total m_found m_from0 m_kind0 m_choices), (zA gw (h 1001) 50 m_spellMany), (zA gw (h 1002) 150 m_spellPrice), (zB gw (h 1003) 150 m_spell)] H := hP
  have hD : va_D A [(zOX9 h m_code m_words m_endings m_slip m_guess m_base m_n m_fixedMany m_acts m_kept m_isRead m_isMade m_parts m_total m_found m_from0 m_kind0 m_choices), (zA gw (h 1001) 50 m_spellMany), (zA gw (h 1002) 150 m_spellPrice), (zB gw (h 1003) 150 m_spell)] := hD
  have hl : lv_has ls 7 [(0, .ref (h 9)), (1, .int (zi x1)), (2, .long (zl x2)), (4, .int (zi x4)), (5, .int (zi x5_63))] := hl
  refine lv_iload hx hb dX9_spelling_99 (lv_at hl 4 rfl) ?_
  obtain ⟨g_101, hm⟩ := gd_e hm
  refine z_if_eq (tgt := 106) hx hb g_101 dX9_spelling_101 (by decide) (fun c_101 => ?_) (fun c_101 => ?_)
  · have hm := if_p hm c_101
    refine lv_aload_n hx hb dX9_spelling_106 rfl (lv_at hl 0 rfl) ?_
    refine va_get (D := gw.1) (ci := 9) (v := .ref (h 1003)) (C := RX9) (T := TX9) (N := 61) hx hb hts iX9_spelling_X9 hown hK.1 hP 0 rfl rfl 3 (by decide) (hts (.fieldLink RX9 16 "SoundLineModel" "spell" "[J") (by decide +kernel)) (fun _ h9 => h9) rfl dX9_spelling_107 ?_
    refine lv_iconst (v := zi 3) hx hb dX9_spelling_110 rfl ?_
    refine lv_iload_n hx hb dX9_spelling_111 rfl (lv_at hl 1 rfl) ?_
    refine z_imul hx hb dX9_spelling_112 ?_
    refine lv_aload_n hx hb dX9_spelling_113 rfl (lv_at hl 0 rfl) ?_
    refine va_get (D := gw.1) (ci := 9) (v := .ref (h 1001)) (C := RX9) (T := TX9) (N := 61) hx hb hts iX9_spelling_X9 hown hK.1 hP 0 rfl rfl 1 (by decide) (hts (.fieldLink RX9 9 "SoundLineModel" "spellMany" "[I") (by decide +kernel)) (fun _ h9 => h9) rfl dX9_spelling_114 ?_
    refine lv_iload_n hx hb dX9_spelling_117 rfl (lv_at hl 1 rfl) ?_
    obtain ⟨g_118, hm⟩ := gd_e hm
    refine z_iald hx hb hK hP 1 rfl g_118 (by decide) dX9_spelling_118 ?_
    refine z_iadd hx hb dX9_spelling_119 ?_
    refine lv_lload_n hx hb dX9_spelling_120 rfl (lv_at hl 2 rfl) ?_
    obtain ⟨g_121, hm⟩ := gd_e hm
    obtain ⟨m_spell_121, e_m_spell_121, hm⟩ := vl_e hm
    refine z_last hx hb hK hP hD hS 3 rfl g_121 (by decide) e_m_spell_121 dX9_spelling_121 (fun H locs hP hD hS => ?_)
    have hP : va_P gw.1 vwCl [(zOX9 h m_code m_words m_endings m_slip m_guess m_base m_n m_fixedMany m_acts m_kept m_isRead m_isMade m_parts m_total m_found m_from0 m_kind0 m_choices), (zA gw (h 1001) 50 m_spellMany), (zA gw (h 1002) 150 m_spellPrice), (zB gw (h 1003) 150 m_spell_121)] H := hP
    have hD : va_D A [(zOX9 h m_code m_words m_endings m_slip m_guess m_base m_n m_fixedMany m_acts m_kept m_isRead m_isMade m_parts m_total m_found m_from0 m_kind0 m_choices), (zA gw (h 1001) 50 m_spellMany), (zA gw (h 1002) 150 m_spellPrice), (zB gw (h 1003) 150 m_spell_121)] := hD
    refine lv_aload_n hx hb dX9_spelling_122 rfl (lv_at hl 0 rfl) ?_
    refine va_get (D := gw.1) (ci := 9) (v := .ref (h 1002)) (C := RX9) (T := TX9) (N := 61) hx hb hts iX9_spelling_X9 hown hK.1 hP 0 rfl rfl 2 (by decide) (hts (.fieldLink RX9 13 "SoundLineModel" "spellPrice" "[I") (by decide +kernel)) (fun _ h9 => h9) rfl dX9_spelling_123 ?_
    refine lv_iconst (v := zi 3) hx hb dX9_spelling_126 rfl ?_
    refine lv_iload_n hx hb dX9_spelling_127 rfl (lv_at hl 1 rfl) ?_
    refine z_imul hx hb dX9_spelling_128 ?_
    refine lv_aload_n hx hb dX9_spelling_129 rfl (lv_at hl 0 rfl) ?_
    refine va_get (D := gw.1) (ci := 9) (v := .ref (h 1001)) (C := RX9) (T := TX9) (N := 61) hx hb hts iX9_spelling_X9 hown hK.1 hP 0 rfl rfl 1 (by decide) (hts (.fieldLink RX9 9 "SoundLineModel" "spellMany" "[I") (by decide +kernel)) (fun _ h9 => h9) rfl dX9_spelling_130 ?_
    refine lv_iload_n hx hb dX9_spelling_133 rfl (lv_at hl 1 rfl) ?_
    obtain ⟨g_134, hm⟩ := gd_e hm
    refine z_iald hx hb hK hP 1 rfl g_134 (by decide) dX9_spelling_134 ?_
    refine z_iadd hx hb dX9_spelling_135 ?_
    refine lv_iload hx hb dX9_spelling_136 (lv_at hl 3 rfl) ?_
    obtain ⟨g_138, hm⟩ := gd_e hm
    obtain ⟨m_spellPrice_138, e_m_spellPrice_138, hm⟩ := vl_e hm
    refine z_iast hx hb hK hP hD hS 2 rfl g_138 (by decide) e_m_spellPrice_138 dX9_spelling_138 (fun H locs hP hD hS => ?_)
    have hP : va_P gw.1 vwCl [(zOX9 h m_code m_words m_endings m_slip m_guess m_base m_n m_fixedMany m_acts m_kept m_isRead m_isMade m_parts m_total m_found m_from0 m_kind0 m_choices), (zA gw (h 1001) 50 m_spellMany), (zA gw (h 1002) 150 m_spellPrice_138), (zB gw (h 1003) 150 m_spell_121)] H := hP
    have hD : va_D A [(zOX9 h m_code m_words m_endings m_slip m_guess m_base m_n m_fixedMany m_acts m_kept m_isRead m_isMade m_parts m_total m_found m_from0 m_kind0 m_choices), (zA gw (h 1001) 50 m_spellMany), (zA gw (h 1002) 150 m_spellPrice_138), (zB gw (h 1003) 150 m_spell_121)] := hD
    refine lv_aload_n hx hb dX9_spelling_139 rfl (lv_at hl 0 rfl) ?_
    refine va_get (D := gw.1) (ci := 9) (v := .ref (h 1001)) (C := RX9) (T := TX9) (N := 61) hx hb hts iX9_spelling_X9 hown hK.1 hP 0 rfl rfl 1 (by decide) (hts (.fieldLink RX9 9 "SoundLineModel" "spellMany" "[I") (by decide +kernel)) (fun _ h9 => h9) rfl dX9_spelling_140 ?_
    refine lv_iload_n hx hb dX9_spelling_143 rfl (lv_at hl 1 rfl) ?_
    refine lv_dup2_11 hx hb dX9_spelling_144 rfl rfl ?_
    obtain ⟨g_145, hm⟩ := gd_e hm
    refine z_iald hx hb hK hP 1 rfl g_145 (by decide) dX9_spelling_145 ?_
    refine lv_iconst (v := zi 1) hx hb dX9_spelling_146 rfl ?_
    refine z_iadd hx hb dX9_spelling_147 ?_
    obtain ⟨g_148, hm⟩ := gd_e hm
    obtain ⟨m_spellMany_148, e_m_spellMany_148, hm⟩ := vl_e hm
    refine z_iast hx hb hK hP hD hS 1 rfl g_148 (by decide) e_m_spellMany_148 dX9_spelling_148 (fun H locs hP hD hS => ?_)
    have hP : va_P gw.1 vwCl [(zOX9 h m_code m_words m_endings m_slip m_guess m_base m_n m_fixedMany m_acts m_kept m_isRead m_isMade m_parts m_total m_found m_from0 m_kind0 m_choices), (zA gw (h 1001) 50 m_spellMany_148), (zA gw (h 1002) 150 m_spellPrice_138), (zB gw (h 1003) 150 m_spell_121)] H := hP
    have hD : va_D A [(zOX9 h m_code m_words m_endings m_slip m_guess m_base m_n m_fixedMany m_acts m_kept m_isRead m_isMade m_parts m_total m_found m_from0 m_kind0 m_choices), (zA gw (h 1001) 50 m_spellMany_148), (zA gw (h 1002) 150 m_spellPrice_138), (zB gw (h 1003) 150 m_spell_121)] := hD
    refine lv_aload_n hx hb dX9_spelling_149 rfl (lv_at hl 0 rfl) ?_
    obtain ⟨u_150, hu_150, hm⟩ := bd_e hm
    obtain ⟨m_isRead_150, m_isMade_150⟩ := u_150
    refine z_callV (As := []) (rest := []) (wr := [(zA gw (h 1001) 50 m_spellMany_148), (zA gw (h 1002) 150 m_spellPrice_138), (zB gw (h 1003) 150 m_spell_121)]) (ws' := [(zOX9 h m_code m_words m_endings m_slip m_guess m_base m_n m_fixedMany m_acts m_kept m_isRead_150 m_isMade_150 m_parts m_total m_found m_from0 m_kind0 m_choices), (zA gw (h 1001) 50 m_spellMany_148), (zA gw (h 1002) 150 m_spellPrice_138), (zB gw (h 1003) 150 m_spell_121)]) ⟨hx, hb, hml, hown, hts⟩ (c_X9_changed l gw h m_code m_words m_endings m_slip m_guess m_base m_n m_fixedMany m_acts m_kept m_parts m_total m_found m_from0 m_kind0 m_choices m_isRead m_isMade _ hu_150 H.size) (cwV 0 hts gX9_spelling_X9_changed rfl rfl rfl (by decide +kernel) ⟨Nat.le_of_ble_eq_true rfl, Nat.le_of_ble_eq_true rfl⟩) hK hP hD hS hA [0] [1, 2, 3] [3, 0, 1, 2] (by decide) rfl rfl (by decide) (by decide) rfl (by decide) 0 9 rfl rfl rfl rfl hl.1 (Nat.le_of_ble_eq_true rfl) dX9_spelling_150 ⟨Nat.zero_le _, Nat.zero_le _⟩ rfl (fun H locs hP hD hS => ?_)
    have hP : va_P gw.1 vwCl [(zOX9 h m_code m_words m_endings m_slip m_guess m_base m_n m_fixedMany m_acts m_kept m_isRead_150 m_isMade_150 m_parts m_total m_found m_from0 m_kind0 m_choices), (zA gw (h 1001) 50 m_spellMany_148), (zA gw (h 1002) 150 m_spellPrice_138), (zB gw (h 1003) 150 m_spell_121)] H := hP
    have hD : va_D A [(zOX9 h m_code m_words m_endings m_slip m_guess m_base m_n m_fixedMany m_acts m_kept m_isRead_150 m_isMade_150 m_parts m_total m_found m_from0 m_kind0 m_choices), (zA gw (h 1001) 50 m_spellMany_148), (zA gw (h 1002) 150 m_spellPrice_138), (zB gw (h 1003) 150 m_spell_121)] := hD
    refine W.eq (g2 := F0 m 153 ls []) rfl ?_
    refine lv_aload_n hx hb dX9_spelling_153 rfl (lv_at hl 0 rfl) ?_
    refine va_get (D := gw.1) (ci := 9) (v := .ref (h 1001)) (C := RX9) (T := TX9) (N := 61) hx hb hts iX9_spelling_X9 hown hK.1 hP 0 rfl rfl 1 (by decide) (hts (.fieldLink RX9 9 "SoundLineModel" "spellMany" "[I") (by decide +kernel)) (fun _ h9 => h9) rfl dX9_spelling_154 ?_
    refine lv_iload_n hx hb dX9_spelling_157 rfl (lv_at hl 1 rfl) ?_
    obtain ⟨g_158, hm⟩ := gd_e hm
    refine z_iald hx hb hK hP 1 rfl g_158 (by decide) dX9_spelling_158 ?_
    cases hm
    exact z_iret hx hb hr hlk hP hD hS dX9_spelling_159
  · have hm := if_n hm c_101
    refine lv_iconst (v := zi (-1)) hx hb dX9_spelling_104 rfl ?_
    cases hm
    exact z_iret hx hb hr hlk hP hD hS dX9_spelling_105
def m_X9_spelling (x1 : Int) (x2 : Int) (x4 : Int) (m_code : Int) (m_spellMany : Nat → Int) (m_spellPrice : Nat → Int) (m_spell : Nat → Int) (m_isRead : Int) (m_isMade : Int) : Option (Int × Int × (Nat → Int) × (Nat → Int) × (Nat → Int) × Int × Int) :=
  gd (inI x1) <|
  if x1 < 0 then
    m_X9_spelling_38 0 m_spellMany m_spellPrice m_spell m_isRead m_isMade
  else
    if 50 ≤ x1 then
      m_X9_spelling_38 0 m_spellMany m_spellPrice m_spell m_isRead m_isMade
    else
      (m_X9_isRow x2 5 4 26).bind fun r_20 =>
      gd (inI r_20) <|
      if r_20 = 0 then
        m_X9_spelling_38 0 m_spellMany m_spellPrice m_spell m_isRead m_isMade
      else
        gd (inI x4) <|
        if x4 < 0 then
          m_X9_spelling_38 0 m_spellMany m_spellPrice m_spell m_isRead m_isMade
        else
          if x4 ≤ 40 then
            gd (0 ≤ x1 ∧ x1 < 50) <|
            gd (inI (m_spellMany (Int.toNat x1))) <|
            if (m_spellMany (Int.toNat x1)) = 3 then
              m_X9_spelling_58 x1 x2 x4 1 0 m_spellMany m_spellPrice m_spell m_isRead m_isMade
            else
              m_X9_spelling_58 x1 x2 x4 0 0 m_spellMany m_spellPrice m_spell m_isRead m_isMade
          else
            m_X9_spelling_38 0 m_spellMany m_spellPrice m_spell m_isRead m_isMade
set_option maxHeartbeats 4000000 in
set_option maxRecDepth 100000 in
theorem w_X9_spelling (F : zF p s m args meth c A gw cX9_spelling 7 (some .int) wsX9_spelling yX9_spelling) (h : Nat → Nat) (m_words : Int) (m_endings : Int) (m_slip : Int) (m_guess : Int) (m_base : Int) (m_n : Int) (m_fixedMany : Int) (m_acts : Int) (m_kept : Int) (m_parts : Int) (m_total : Int) (m_found : Int) (m_from0 : Int) (m_kind0 : Int) (m_choices : Int) (x1 : Int) (x2 : Int) (x4 : Int) (m_code : Int) (m_spellMany : Nat → Int) (m_spellPrice : Nat → Int) (m_spell : Nat → Int) (m_isRead : Int) (m_isMade : Int) (u : Int × Int × (Nat → Int) × (Nat → Int) × (Nat → Int) × Int × Int) (hm : m_X9_spelling x1 x2 x4 m_code m_spellMany m_spellPrice m_spell m_isRead m_isMade = some u) (H : Heap) (locs : List Loc) (ls : Array Slot) (hP : va_P gw.1 vwCl [(zOX9 h m_code m_words m_endings m_slip m_guess m_base m_n m_fixedMany m_acts m_kept m_isRead m_isMade m_parts m_total m_found m_from0 m_kind0 m_choices), (zA gw (h 1001) 50 m_spellMany), (zA gw (h 1002) 150 m_spellPrice), (zB gw (h 1003) 150 m_spell)] H) (hD : va_D A [(zOX9 h m_code m_words m_endings m_slip m_guess m_base m_n m_fixedMany m_acts m_kept m_isRead m_isMade m_parts m_total m_found m_from0 m_kind0 m_choices), (zA gw (h 1001) 50 m_spellMany), (zA gw (h 1002) 150 m_spellPrice), (zB gw (h 1003) 150 m_spell)]) (hS : va_S A s.heap H locs) (hl : lv_has ls 7 [(0, .ref (h 9)), (1, .int (zi x1)), (2, .long (zl x2)), (4, .int (zi x4))]) : W p l e rmX9_spelling s m args below meth c H locs 0 0 (MQ below (zQ gw (some (.int (zi u.1))) [(zOX9 h (u.2.1) m_words m_endings m_slip m_guess m_base m_n m_fixedMany m_acts m_kept (u.2.2.2.2.2.1) (u.2.2.2.2.2.2) m_parts m_total m_found m_from0 m_kind0 m_choices), (zA gw (h 1001) 50 (u.2.2.1)), (zA gw (h 1002) 150 (u.2.2.2.1)), (zB gw (h 1003) 150 (u.2.2.2.2.1))] A) args s 0 0 A) (F0 m 0 ls []) := by
  obtain ⟨hx, hb, hml, hr, hown, hts, hlk, hK, hA, hnm⟩ := id F
  have hown : s.vm.findClass RX9 = some m.cls := hown
  unfold m_X9_spelling at hm
  refine lv_aload_n hx hb dX9_spelling_0 rfl (lv_at hl 0 rfl) ?_
  refine lv_iconst (v := zi 0) hx hb dX9_spelling_1 rfl ?_
  refine va_put (D := gw.1) (ci := 9) (v := .int (zi 0)) (ty := .int) (C := RX9) (T := TX9) (N := 61) hx hb hts iX9_spelling_X9 tyX9 tyX9_ok nmX9 hown hK.1 hP hD hS 0 rfl rfl 0 (by decide) (hts (.fieldLink RX9 151 "SoundLineModel" "code" "I") (by decide +kernel)) (fun _ h9 => h9) rfl (by decide +kernel) rfl rfl (Nat.le_of_ble_eq_true rfl) dX9_spelling_2 (fun H locs hP hD hS => ?_)
  have hP : va_P gw.1 vwCl [(zOX9 h 0 m_words m_endings m_slip m_guess m_base m_n m_fixedMany m_acts m_kept m_isRead m_isMade m_parts m_total m_found m_from0 m_kind0 m_choices), (zA gw (h 1001) 50 m_spellMany), (zA gw (h 1002) 150 m_spellPrice), (zB gw (h 1003) 150 m_spell)] H := hP
  have hD : va_D A [(zOX9 h 0 m_words m_endings m_slip m_guess m_base m_n m_fixedMany m_acts m_kept m_isRead m_isMade m_parts m_total m_found m_from0 m_kind0 m_choices), (zA gw (h 1001) 50 m_spellMany), (zA gw (h 1002) 150 m_spellPrice), (zB gw (h 1003) 150 m_spell)] := hD
  refine lv_iload_n hx hb dX9_spelling_5 rfl (lv_at hl 1 rfl) ?_
  obtain ⟨g_6, hm⟩ := gd_e hm
  refine z_if_lt (tgt := 38) hx hb g_6 dX9_spelling_6 (by decide) (fun c_6 => ?_) (fun c_6 => ?_)
  · have hm := if_p hm c_6
    exact w_X9_spelling_38 F h m_words m_endings m_slip m_guess m_base m_n m_fixedMany m_acts m_kept m_parts m_total m_found m_from0 m_kind0 m_choices 0 m_spellMany m_spellPrice m_spell m_isRead m_isMade _ hm _ _ _ hP hD hS (lv_sub hl [0] rfl)
  · have hm := if_n hm c_6
    refine lv_iload_n hx hb dX9_spelling_9 rfl (lv_at hl 1 rfl) ?_
    refine lv_bipush (v := zi 50) hx hb dX9_spelling_10 (by decide) ?_
    refine z_icmp_ge (tgt := 38) hx hb g_6 (by decide) dX9_spelling_12 (by decide) (fun c_12 => ?_) (fun c_12 => ?_)
    · have hm := if_p hm c_12
      exact w_X9_spelling_38 F h m_words m_endings m_slip m_guess m_base m_n m_fixedMany m_acts m_kept m_parts m_total m_found m_from0 m_kind0 m_choices 0 m_spellMany m_spellPrice m_spell m_isRead m_isMade _ hm _ _ _ hP hD hS (lv_sub hl [0] rfl)
    · have hm := if_n hm c_12
      refine lv_lload_n hx hb dX9_spelling_15 rfl (lv_at hl 2 rfl) ?_
      refine lv_iconst (v := zi 5) hx hb dX9_spelling_16 rfl ?_
      refine lv_iconst (v := zi 4) hx hb dX9_spelling_17 rfl ?_
      refine lv_bipush (v := zi 26) hx hb dX9_spelling_18 (by decide) ?_
      obtain ⟨r_20, hr_20, hm⟩ := bd_e hm
      refine z_callS (As := [.long (zl x2), .int (zi 5), .int (zi 4), .int (zi 26)]) (rest := []) (wr := [(zOX9 h 0 m_words m_endings m_slip m_guess m_base m_n m_fixedMany m_acts m_kept m_isRead m_isMade m_parts m_total m_found m_from0 m_kind0 m_choices), (zA gw (h 1001) 50 m_spellMany), (zA gw (h 1002) 150 m_spellPrice), (zB gw (h 1003) 150 m_spell)]) (ws' := [(zOX9 h 0 m_words m_endings m_slip m_guess m_base m_n m_fixedMany m_acts m_kept m_isRead m_isMade m_parts m_total m_found m_from0 m_kind0 m_choices), (zA gw (h 1001) 50 m_spellMany), (zA gw (h 1002) 150 m_spellPrice), (zB gw (h 1003) 150 m_spell)]) ⟨hx, hb, hml, hown, hts⟩ (c_X9_isRow l gw h x2 5 4 26 r_20 hr_20 H.size) (va_cwS 4 hts gX9_spelling_X9_isRow rfl rfl rfl (by decide +kernel) ⟨Nat.le_of_ble_eq_true rfl, Nat.le_of_ble_eq_true rfl⟩) hK hP hD hS hA [] [0, 1, 2, 3] [0, 1, 2, 3] (by decide) rfl rfl (by decide) (by decide) rfl (by decide) rfl hl.1 (Nat.le_of_ble_eq_true rfl) dX9_spelling_20 ⟨Nat.zero_le _, Nat.zero_le _⟩ rfl (fun H locs hP hD hS => ?_)
      have hP : va_P gw.1 vwCl [(zOX9 h 0 m_words m_endings m_slip m_guess m_base m_n m_fixedMany m_acts m_kept m_isRead m_isMade m_parts m_total m_found m_from0 m_kind0 m_choices), (zA gw (h 1001) 50 m_spellMany), (zA gw (h 1002) 150 m_spellPrice), (zB gw (h 1003) 150 m_spell)] H := hP
      have hD : va_D A [(zOX9 h 0 m_words m_endings m_slip m_guess m_base m_n m_fixedMany m_acts m_kept m_isRead m_isMade m_parts m_total m_found m_from0 m_kind0 m_choices), (zA gw (h 1001) 50 m_spellMany), (zA gw (h 1002) 150 m_spellPrice), (zB gw (h 1003) 150 m_spell)] := hD
      refine W.eq (g2 := F0 m 23 ls [.int (zi r_20)]) rfl ?_
      obtain ⟨g_23, hm⟩ := gd_e hm
      refine z_if_eq (tgt := 38) hx hb g_23 dX9_spelling_23 (by decide) (fun c_23 => ?_) (fun c_23 => ?_)
      · have hm := if_p hm c_23
        exact w_X9_spelling_38 F h m_words m_endings m_slip m_guess m_base m_n m_fixedMany m_acts m_kept m_parts m_total m_found m_from0 m_kind0 m_choices 0 m_spellMany m_spellPrice m_spell m_isRead m_isMade _ hm _ _ _ hP hD hS (lv_sub hl [0] rfl)
      · have hm := if_n hm c_23
        refine lv_iload hx hb dX9_spelling_26 (lv_at hl 3 rfl) ?_
        obtain ⟨g_28, hm⟩ := gd_e hm
        refine z_if_lt (tgt := 38) hx hb g_28 dX9_spelling_28 (by decide) (fun c_28 => ?_) (fun c_28 => ?_)
        · have hm := if_p hm c_28
          exact w_X9_spelling_38 F h m_words m_endings m_slip m_guess m_base m_n m_fixedMany m_acts m_kept m_parts m_total m_found m_from0 m_kind0 m_choices 0 m_spellMany m_spellPrice m_spell m_isRead m_isMade _ hm _ _ _ hP hD hS (lv_sub hl [0] rfl)
        · have hm := if_n hm c_28
          refine lv_iload hx hb dX9_spelling_31 (lv_at hl 3 rfl) ?_
          refine lv_bipush (v := zi 40) hx hb dX9_spelling_33 (by decide) ?_
          refine z_icmp_le (tgt := 43) hx hb g_28 (by decide) dX9_spelling_35 (by decide) (fun c_35 => ?_) (fun c_35 => ?_)
          · have hm := if_p hm c_35
            refine lv_aload_n hx hb dX9_spelling_43 rfl (lv_at hl 0 rfl) ?_
            refine va_get (D := gw.1) (ci := 9) (v := .ref (h 1001)) (C := RX9) (T := TX9) (N := 61) hx hb hts iX9_spelling_X9 hown hK.1 hP 0 rfl rfl 1 (by decide) (hts (.fieldLink RX9 9 "SoundLineModel" "spellMany" "[I") (by decide +kernel)) (fun _ h9 => h9) rfl dX9_spelling_44 ?_
            refine lv_iload_n hx hb dX9_spelling_47 rfl (lv_at hl 1 rfl) ?_
            obtain ⟨g_48, hm⟩ := gd_e hm
            refine z_iald hx hb hK hP 1 rfl g_48 (by decide) dX9_spelling_48 ?_
            refine lv_iconst (v := zi 3) hx hb dX9_spelling_49 rfl ?_
            obtain ⟨g_50, hm⟩ := gd_e hm
            refine z_icmp_ne (tgt := 57) hx hb g_50 (by decide) dX9_spelling_50 (by decide) (fun c_50 => ?_) (fun c_50 => ?_)
            · have hm := if_n hm c_50
              refine lv_iconst (v := zi 0) hx hb dX9_spelling_57 rfl ?_
              exact w_X9_spelling_58 F h m_words m_endings m_slip m_guess m_base m_n m_fixedMany m_acts m_kept m_parts m_total m_found m_from0 m_kind0 m_choices x1 x2 x4 0 0 m_spellMany m_spellPrice m_spell m_isRead m_isMade _ hm _ _ _ hP hD hS hl
            · have hm := if_p hm c_50
              refine lv_iconst (v := zi 1) hx hb dX9_spelling_53 rfl ?_
              refine lv_goto (tgt := 58) hx hb dX9_spelling_54 (by decide) ?_
              exact w_X9_spelling_58 F h m_words m_endings m_slip m_guess m_base m_n m_fixedMany m_acts m_kept m_parts m_total m_found m_from0 m_kind0 m_choices x1 x2 x4 1 0 m_spellMany m_spellPrice m_spell m_isRead m_isMade _ hm _ _ _ hP hD hS hl
          · have hm := if_n hm c_35
            exact w_X9_spelling_38 F h m_words m_endings m_slip m_guess m_base m_n m_fixedMany m_acts m_kept m_parts m_total m_found m_from0 m_kind0 m_choices 0 m_spellMany m_spellPrice m_spell m_isRead m_isMade _ hm _ _ _ hP hD hS (lv_sub hl [0] rfl)
theorem c_X9_spelling (l : Launch) (gw : zG) (h : Nat → Nat) (m_words : Int) (m_endings : Int) (m_slip : Int) (m_guess : Int) (m_base : Int) (m_n : Int) (m_fixedMany : Int) (m_acts : Int) (m_kept : Int) (m_parts : Int) (m_total : Int) (m_found : Int) (m_from0 : Int) (m_kind0 : Int) (m_choices : Int) (x1 : Int) (x2 : Int) (x4 : Int) (m_code : Int) (m_spellMany : Nat → Int) (m_spellPrice : Nat → Int) (m_spell : Nat → Int) (m_isRead : Int) (m_isMade : Int) (u : Int × Int × (Nat → Int) × (Nat → Int) × (Nat → Int) × Int × Int) (hm : m_X9_spelling x1 x2 x4 m_code m_spellMany m_spellPrice m_spell m_isRead m_isMade = some u) (sz : Nat) : Met l yX9_spelling wsX9_spelling rmX9_spelling (va_Pc [.ref (h 9), .int (zi x1), .long (zl x2), .int (zi x4)] (zPre gw [(zOX9 h m_code m_words m_endings m_slip m_guess m_base m_n m_fixedMany m_acts m_kept m_isRead m_isMade m_parts m_total m_found m_from0 m_kind0 m_choices), (zA gw (h 1001) 50 m_spellMany), (zA gw (h 1002) 150 m_spellPrice), (zB gw (h 1003) 150 m_spell)] sz)) (zQ gw (some (.int (zi u.1))) [(zOX9 h (u.2.1) m_words m_endings m_slip m_guess m_base m_n m_fixedMany m_acts m_kept (u.2.2.2.2.2.1) (u.2.2.2.2.2.2) m_parts m_total m_found m_from0 m_kind0 m_choices), (zA gw (h 1001) 50 (u.2.2.1)), (zA gw (h 1002) 150 (u.2.2.2.1)), (zB gw (h 1003) 150 (u.2.2.2.2.1))] (va_A [(zOX9 h m_code m_words m_endings m_slip m_guess m_base m_n m_fixedMany m_acts m_kept m_isRead m_isMade m_parts m_total m_found m_from0 m_kind0 m_choices), (zA gw (h 1001) 50 m_spellMany), (zA gw (h 1002) 150 m_spellPrice), (zB gw (h 1003) 150 m_spell)] sz)) 0 0 (va_A [(zOX9 h m_code m_words m_endings m_slip m_guess m_base m_n m_fixedMany m_acts m_kept m_isRead m_isMade m_parts m_total m_found m_from0 m_kind0 m_choices), (zA gw (h 1001) 50 m_spellMany), (zA gw (h 1002) 150 m_spellPrice), (zB gw (h 1003) 150 m_spell)] sz) :=
  z_met (by decide) rfl (Nat.le_of_ble_eq_true rfl) rfl (fun p e s m args below meth c A F hsz ls hl hP hD => w_X9_spelling F h m_words m_endings m_slip m_guess m_base m_n m_fixedMany m_acts m_kept m_parts m_total m_found m_from0 m_kind0 m_choices x1 x2 x4 m_code m_spellMany m_spellPrice m_spell m_isRead m_isMade u hm s.heap [] ls hP hD va_S.rf hl)
abbrev rmX9_word : Room := { frames := 3, cells := 0, slots := 0, locals := 73 }
theorem iX9_word_X9 : ∀ w ∈ wsX90, w ∈ wsX9_word := by decide +kernel
def m_X9_word_55 (m_code : Int) (m_sounds : Nat → Int) (m_signs : Nat → Int) (m_kind : Nat → Int) (m_itsClass : Nat → Int) (m_words : Int) (m_isRead : Int) (m_isMade : Int) : Option (Int × Int × (Nat → Int) × (Nat → Int) × (Nat → Int) × (Nat → Int) × Int × Int × Int) :=
  (m_X9_fail m_code).bind fun (r_56, m_code_56) =>
  some (r_56, m_code_56, m_sounds, m_signs, m_kind, m_itsClass, m_words, m_isRead, m_isMade)
set_option maxHeartbeats 4000000 in
set_option maxRecDepth 100000 in
theorem w_X9_word_55 (F : zF p s m args meth c A gw cX9_word 7 (some .int) wsX9_word yX9_word) (h : Nat → Nat) (m_endings : Int) (m_slip : Int) (m_guess : Int) (m_base : Int) (m_n : Int) (m_fixedMany : Int) (m_acts : Int) (m_kept : Int) (m_parts : Int) (m_total : Int) (m_found : Int) (m_from0 : Int) (m_kind0 : Int) (m_choices : Int) (m_code : Int) (m_sounds : Nat → Int) (m_signs : Nat → Int) (m_kind : Nat → Int) (m_itsClass : Nat → Int) (m_words : Int) (m_isRead : Int) (m_isMade : Int) (u : Int × Int × (Nat → Int) × (Nat → Int) × (Nat → Int) × (Nat → Int) × Int × Int × Int) (hm : m_X9_word_55 m_code m_sounds m_signs m_kind m_itsClass m_words m_isRead m_isMade = some u) (H : Heap) (locs : List Loc) (ls : Array Slot) (hP : va_P gw.1 vwCl [(zOX9 h m_code m_words m_endings m_slip m_guess m_base m_n m_fixedMany m_acts m_kept m_isRead m_isMade m_parts m_total m_found m_from0 m_kind0 m_choices), (zB gw (h 1004) 60 m_sounds), (zB gw (h 1005) 60 m_signs), (zA gw (h 1007) 60 m_kind), (zA gw (h 1008) 60 m_itsClass)] H) (hD : va_D A [(zOX9 h m_code m_words m_endings m_slip m_guess m_base m_n m_fixedMany m_acts m_kept m_isRead m_isMade m_parts m_total m_found m_from0 m_kind0 m_choices), (zB gw (h 1004) 60 m_sounds), (zB gw (h 1005) 60 m_signs), (zA gw (h 1007) 60 m_kind), (zA gw (h 1008) 60 m_itsClass)]) (hS : va_S A s.heap H locs) (hl : lv_has ls 7 [(0, .ref (h 9))]) : W p l e rmX9_word s m args below meth c H locs 0 0 (MQ below (zQ gw (some (.int (zi u.1))) [(zOX9 h (u.2.1) (u.2.2.2.2.2.2.1) m_endings m_slip m_guess m_base m_n m_fixedMany m_acts m_kept (u.2.2.2.2.2.2.2.1) (u.2.2.2.2.2.2.2.2) m_parts m_total m_found m_from0 m_kind0 m_choices), (zB gw (h 1004) 60 (u.2.2.1)), (zB gw (h 1005) 60 (u.2.2.2.1)), (zA gw (h 1007) 60 (u.2.2.2.2.1)), (zA gw (h 1008) 60 (u.2.2.2.2.2.1))] A) args s 0 0 A) (F0 m 55 ls []) := by
  obtain ⟨hx, hb, hml, hr, hown, hts, hlk, hK, hA, hnm⟩ := id F
  have hown : s.vm.findClass RX9 = some m.cls := hown
  unfold m_X9_word_55 at hm
  refine lv_aload_n hx hb dX9_word_55 rfl (lv_at hl 0 rfl) ?_
  obtain ⟨u_56, hu_56, hm⟩ := bd_e hm
  obtain ⟨r_56, m_code_56⟩ := u_56
  refine z_callV (As := []) (rest := []) (wr := [(zB gw (h 1004) 60 m_sounds), (zB gw (h 1005) 60 m_signs), (zA gw (h 1007) 60 m_kind), (zA gw (h 1008) 60 m_itsClass)]) (ws' := [(zOX9 h m_code_56 m_words m_endings m_slip m_guess m_base m_n m_fixedMany m_acts m_kept m_isRead m_isMade m_parts m_total m_found m_from0 m_kind0 m_choices), (zB gw (h 1004) 60 m_sounds), (zB gw (h 1005) 60 m_signs), (zA gw (h 1007) 60 m_kind), (zA gw (h 1008) 60 m_itsClass)]) ⟨hx, hb, hml, hown, hts⟩ (c_X9_fail l gw h m_words m_endings m_slip m_guess m_base m_n m_fixedMany m_acts m_kept m_isRead m_isMade m_parts m_total m_found m_from0 m_kind0 m_choices m_code _ hu_56 H.size) (cwV 0 hts gX9_word_X9_fail rfl rfl rfl (by decide +kernel) ⟨Nat.le_of_ble_eq_true rfl, Nat.le_of_ble_eq_true rfl⟩) hK hP hD hS hA [0] [1, 2, 3, 4] [4, 0, 1, 2, 3] (by decide) rfl rfl (by decide) (by decide) rfl (by decide) 0 9 rfl rfl rfl rfl hl.1 (Nat.le_of_ble_eq_true rfl) dX9_word_56 ⟨Nat.zero_le _, Nat.zero_le _⟩ rfl (fun H locs hP hD hS => ?_)
  have hP : va_P gw.1 vwCl [(zOX9 h m_code_56 m_words m_endings m_slip m_guess m_base m_n m_fixedMany m_acts m_kept m_isRead m_isMade m_parts m_total m_found m_from0 m_kind0 m_choices), (zB gw (h 1004) 60 m_sounds), (zB gw (h 1005) 60 m_signs), (zA gw (h 1007) 60 m_kind), (zA gw (h 1008) 60 m_itsClass)] H := hP
  have hD : va_D A [(zOX9 h m_code_56 m_words m_endings m_slip m_guess m_base m_n m_fixedMany m_acts m_kept m_isRead m_isMade m_parts m_total m_found m_from0 m_kind0 m_choices), (zB gw (h 1004) 60 m_sounds), (zB gw (h 1005) 60 m_signs), (zA gw (h 1007) 60 m_kind), (zA gw (h 1008) 60 m_itsClass)] := hD
  refine W.eq (g2 := F0 m 59 ls [.int (zi r_56)]) rfl ?_
  cases hm
  exact z_iret hx hb hr hlk hP hD hS dX9_word_59
def m_X9_word (x1 : Int) (x3 : Int) (x5 : Int) (x6 : Int) (m_code : Int) (m_sounds : Nat → Int) (m_signs : Nat → Int) (m_kind : Nat → Int) (m_itsClass : Nat → Int) (m_words : Int) (m_isRead : Int) (m_isMade : Int) : Option (Int × Int × (Nat → Int) × (Nat → Int) × (Nat → Int) × (Nat → Int) × Int × Int × Int) :=
  (m_X9_isRow x1 6 6 50).bind fun r_12 =>
  gd (inI r_12) <|
  if r_12 = 0 then
    m_X9_word_55 0 m_sounds m_signs m_kind m_itsClass m_words m_isRead m_isMade
  else
    (m_X9_isRow x3 14 4 16383).bind fun r_25 =>
    gd (inI r_25) <|
    if r_25 = 0 then
      m_X9_word_55 0 m_sounds m_signs m_kind m_itsClass m_words m_isRead m_isMade
    else
      gd (inI x5) <|
      if x5 < 0 then
        m_X9_word_55 0 m_sounds m_signs m_kind m_itsClass m_words m_isRead m_isMade
      else
        if 7 < x5 then
          m_X9_word_55 0 m_sounds m_signs m_kind m_itsClass m_words m_isRead m_isMade
        else
          gd (inI x6) <|
          if x6 < (-1) then
            m_X9_word_55 0 m_sounds m_signs m_kind m_itsClass m_words m_isRead m_isMade
          else
            if x6 ≤ 5 then
              gd (inI m_words) <|
              if m_words = 60 then
                some ((-1), 0, m_sounds, m_signs, m_kind, m_itsClass, m_words, m_isRead, m_isMade)
              else
                gd (0 ≤ m_words ∧ m_words < 60) <|
                vl (uz m_sounds (Int.toNat m_words) x1) fun m_sounds_80 =>
                gd (0 ≤ m_words ∧ m_words < 60) <|
                vl (uz m_signs (Int.toNat m_words) x3) fun m_signs_90 =>
                gd (0 ≤ m_words ∧ m_words < 60) <|
                vl (uz m_kind (Int.toNat m_words) x5) fun m_kind_101 =>
                gd (0 ≤ m_words ∧ m_words < 60) <|
                vl (uz m_itsClass (Int.toNat m_words) x6) fun m_itsClass_112 =>
                vl (m_words + 1) fun m_words_120 =>
                (m_X9_changed m_isRead m_isMade).bind fun (m_isRead_124, m_isMade_124) =>
                some ((m_words_120 - 1), 0, m_sounds_80, m_signs_90, m_kind_101, m_itsClass_112, m_words_120, m_isRead_124, m_isMade_124)
            else
              m_X9_word_55 0 m_sounds m_signs m_kind m_itsClass m_words m_isRead m_isMade
set_option maxHeartbeats 4000000 in
set_option maxRecDepth 100000 in
theorem w_X9_word (F : zF p s m args meth c A gw cX9_word 7 (some .int) wsX9_word yX9_word) (h : Nat → Nat) (m_endings : Int) (m_slip : Int) (m_guess : Int) (m_base : Int) (m_n : Int) (m_fixedMany : Int) (m_acts : Int) (m_kept : Int) (m_parts : Int) (m_total : Int) (m_found : Int) (m_from0 : Int) (m_kind0 : Int) (m_choices : Int) (x1 : Int) (x3 : Int) (x5 : Int) (x6 : Int) (m_code : Int) (m_sounds : Nat → Int) (m_signs : Nat → Int) (m_kind : Nat → Int) (m_itsClass : Nat → Int) (m_words : Int) (m_isRead : Int) (m_isMade : Int) (u : Int × Int × (Nat → Int) × (Nat → Int) × (Nat → Int) × (Nat → Int) × Int × Int × Int) (hm : m_X9_word x1 x3 x5 x6 m_code m_sounds m_signs m_kind m_itsClass m_words m_isRead m_isMade = some u) (H : Heap) (locs : List Loc) (ls : Array Slot) (hP : va_P gw.1 vwCl [(zOX9 h m_code m_words m_endings m_slip m_guess m_base m_n m_fixedMany m_acts m_kept m_isRead m_isMade m_parts m_total m_found m_from0 m_kind0 m_choices), (zB gw (h 1004) 60 m_sounds), (zB gw (h 1005) 60 m_signs), (zA gw (h 1007) 60 m_kind), (zA gw (h 1008) 60 m_itsClass)] H) (hD : va_D A [(zOX9 h m_code m_words m_endings m_slip m_guess m_base m_n m_fixedMany m_acts m_kept m_isRead m_isMade m_parts m_total m_found m_from0 m_kind0 m_choices), (zB gw (h 1004) 60 m_sounds), (zB gw (h 1005) 60 m_signs), (zA gw (h 1007) 60 m_kind), (zA gw (h 1008) 60 m_itsClass)]) (hS : va_S A s.heap H locs) (hl : lv_has ls 7 [(0, .ref (h 9)), (1, .long (zl x1)), (3, .long (zl x3)), (5, .int (zi x5)), (6, .int (zi x6))]) : W p l e rmX9_word s m args below meth c H locs 0 0 (MQ below (zQ gw (some (.int (zi u.1))) [(zOX9 h (u.2.1) (u.2.2.2.2.2.2.1) m_endings m_slip m_guess m_base m_n m_fixedMany m_acts m_kept (u.2.2.2.2.2.2.2.1) (u.2.2.2.2.2.2.2.2) m_parts m_total m_found m_from0 m_kind0 m_choices), (zB gw (h 1004) 60 (u.2.2.1)), (zB gw (h 1005) 60 (u.2.2.2.1)), (zA gw (h 1007) 60 (u.2.2.2.2.1)), (zA gw (h 1008) 60 (u.2.2.2.2.2.1))] A) args s 0 0 A) (F0 m 0 ls []) := by
  obtain ⟨hx, hb, hml, hr, hown, hts, hlk, hK, hA, hnm⟩ := id F
  have hown : s.vm.findClass RX9 = some m.cls := hown
  unfold m_X9_word at hm
  refine lv_aload_n hx hb dX9_word_0 rfl (lv_at hl 0 rfl) ?_
  refine lv_iconst (v := zi 0) hx hb dX9_word_1 rfl ?_
  refine va_put (D := gw.1) (ci := 9) (v := .int (zi 0)) (ty := .int) (C := RX9) (T := TX9) (N := 61) hx hb hts iX9_word_X9 tyX9 tyX9_ok nmX9 hown hK.1 hP hD hS 0 rfl rfl 0 (by decide) (hts (.fieldLink RX9 151 "SoundLineModel" "code" "I") (by decide +kernel)) (fun _ h9 => h9) rfl (by decide +kernel) rfl rfl (Nat.le_of_ble_eq_true rfl) dX9_word_2 (fun H locs hP hD hS => ?_)
  have hP : va_P gw.1 vwCl [(zOX9 h 0 m_words m_endings m_slip m_guess m_base m_n m_fixedMany m_acts m_kept m_isRead m_isMade m_parts m_total m_found m_from0 m_kind0 m_choices), (zB gw (h 1004) 60 m_sounds), (zB gw (h 1005) 60 m_signs), (zA gw (h 1007) 60 m_kind), (zA gw (h 1008) 60 m_itsClass)] H := hP
  have hD : va_D A [(zOX9 h 0 m_words m_endings m_slip m_guess m_base m_n m_fixedMany m_acts m_kept m_isRead m_isMade m_parts m_total m_found m_from0 m_kind0 m_choices), (zB gw (h 1004) 60 m_sounds), (zB gw (h 1005) 60 m_signs), (zA gw (h 1007) 60 m_kind), (zA gw (h 1008) 60 m_itsClass)] := hD
  refine lv_lload_n hx hb dX9_word_5 rfl (lv_at hl 1 rfl) ?_
  refine lv_bipush (v := zi 6) hx hb dX9_word_6 (by decide) ?_
  refine lv_bipush (v := zi 6) hx hb dX9_word_8 (by decide) ?_
  refine lv_bipush (v := zi 50) hx hb dX9_word_10 (by decide) ?_
  obtain ⟨r_12, hr_12, hm⟩ := bd_e hm
  refine z_callS (As := [.long (zl x1), .int (zi 6), .int (zi 6), .int (zi 50)]) (rest := []) (wr := [(zOX9 h 0 m_words m_endings m_slip m_guess m_base m_n m_fixedMany m_acts m_kept m_isRead m_isMade m_parts m_total m_found m_from0 m_kind0 m_choices), (zB gw (h 1004) 60 m_sounds), (zB gw (h 1005) 60 m_signs), (zA gw (h 1007) 60 m_kind), (zA gw (h 1008) 60 m_itsClass)]) (ws' := [(zOX9 h 0 m_words m_endings m_slip m_guess m_base m_n m_fixedMany m_acts m_kept m_isRead m_isMade m_parts m_total m_found m_from0 m_kind0 m_choices), (zB gw (h 1004) 60 m_sounds), (zB gw (h 1005) 60 m_signs), (zA gw (h 1007) 60 m_kind), (zA gw (h 1008) 60 m_itsClass)]) ⟨hx, hb, hml, hown, hts⟩ (c_X9_isRow l gw h x1 6 6 50 r_12 hr_12 H.size) (va_cwS 4 hts gX9_word_X9_isRow rfl rfl rfl (by decide +kernel) ⟨Nat.le_of_ble_eq_true rfl, Nat.le_of_ble_eq_true rfl⟩) hK hP hD hS hA [] [0, 1, 2, 3, 4] [0, 1, 2, 3, 4] (by decide) rfl rfl (by decide) (by decide) rfl (by decide) rfl hl.1 (Nat.le_of_ble_eq_true rfl) dX9_word_12 ⟨Nat.zero_le _, Nat.zero_le _⟩ rfl (fun H locs hP hD hS => ?_)
  have hP : va_P gw.1 vwCl [(zOX9 h 0 m_words m_endings m_slip m_guess m_base m_n m_fixedMany m_acts m_kept m_isRead m_isMade m_parts m_total m_found m_from0 m_kind0 m_choices), (zB gw (h 1004) 60 m_sounds), (zB gw (h 1005) 60 m_signs), (zA gw (h 1007) 60 m_kind), (zA gw (h 1008) 60 m_itsClass)] H := hP
  have hD : va_D A [(zOX9 h 0 m_words m_endings m_slip m_guess m_base m_n m_fixedMany m_acts m_kept m_isRead m_isMade m_parts m_total m_found m_from0 m_kind0 m_choices), (zB gw (h 1004) 60 m_sounds), (zB gw (h 1005) 60 m_signs), (zA gw (h 1007) 60 m_kind), (zA gw (h 1008) 60 m_itsClass)] := hD
  refine W.eq (g2 := F0 m 15 ls [.int (zi r_12)]) rfl ?_
  obtain ⟨g_15, hm⟩ := gd_e hm
  refine z_if_eq (tgt := 55) hx hb g_15 dX9_word_15 (by decide) (fun c_15 => ?_) (fun c_15 => ?_)
  · have hm := if_p hm c_15
    exact w_X9_word_55 F h m_endings m_slip m_guess m_base m_n m_fixedMany m_acts m_kept m_parts m_total m_found m_from0 m_kind0 m_choices 0 m_sounds m_signs m_kind m_itsClass m_words m_isRead m_isMade _ hm _ _ _ hP hD hS (lv_sub hl [0] rfl)
  · have hm := if_n hm c_15
    refine lv_lload_n hx hb dX9_word_18 rfl (lv_at hl 2 rfl) ?_
    refine lv_bipush (v := zi 14) hx hb dX9_word_19 (by decide) ?_
    refine lv_iconst (v := zi 4) hx hb dX9_word_21 rfl ?_
    refine lv_sipush (v := zi 16383) hx hb dX9_word_22 (by decide) ?_
    obtain ⟨r_25, hr_25, hm⟩ := bd_e hm
    refine z_callS (As := [.long (zl x3), .int (zi 14), .int (zi 4), .int (zi 16383)]) (rest := []) (wr := [(zOX9 h 0 m_words m_endings m_slip m_guess m_base m_n m_fixedMany m_acts m_kept m_isRead m_isMade m_parts m_total m_found m_from0 m_kind0 m_choices), (zB gw (h 1004) 60 m_sounds), (zB gw (h 1005) 60 m_signs), (zA gw (h 1007) 60 m_kind), (zA gw (h 1008) 60 m_itsClass)]) (ws' := [(zOX9 h 0 m_words m_endings m_slip m_guess m_base m_n m_fixedMany m_acts m_kept m_isRead m_isMade m_parts m_total m_found m_from0 m_kind0 m_choices), (zB gw (h 1004) 60 m_sounds), (zB gw (h 1005) 60 m_signs), (zA gw (h 1007) 60 m_kind), (zA gw (h 1008) 60 m_itsClass)]) ⟨hx, hb, hml, hown, hts⟩ (c_X9_isRow l gw h x3 14 4 16383 r_25 hr_25 H.size) (va_cwS 4 hts gX9_word_X9_isRow rfl rfl rfl (by decide +kernel) ⟨Nat.le_of_ble_eq_true rfl, Nat.le_of_ble_eq_true rfl⟩) hK hP hD hS hA [] [0, 1, 2, 3, 4] [0, 1, 2, 3, 4] (by decide) rfl rfl (by decide) (by decide) rfl (by decide) rfl hl.1 (Nat.le_of_ble_eq_true rfl) dX9_word_25 ⟨Nat.zero_le _, Nat.zero_le _⟩ rfl (fun H locs hP hD hS => ?_)
    have hP : va_P gw.1 vwCl [(zOX9 h 0 m_words m_endings m_slip m_guess m_base m_n m_fixedMany m_acts m_kept m_isRead m_isMade m_parts m_total m_found m_from0 m_kind0 m_choices), (zB gw (h 1004) 60 m_sounds), (zB gw (h 1005) 60 m_signs), (zA gw (h 1007) 60 m_kind), (zA gw (h 1008) 60 m_itsClass)] H := hP
    have hD : va_D A [(zOX9 h 0 m_words m_endings m_slip m_guess m_base m_n m_fixedMany m_acts m_kept m_isRead m_isMade m_parts m_total m_found m_from0 m_kind0 m_choices), (zB gw (h 1004) 60 m_sounds), (zB gw (h 1005) 60 m_signs), (zA gw (h 1007) 60 m_kind), (zA gw (h 1008) 60 m_itsClass)] := hD
    refine W.eq (g2 := F0 m 28 ls [.int (zi r_25)]) rfl ?_
    obtain ⟨g_28, hm⟩ := gd_e hm
    refine z_if_eq (tgt := 55) hx hb g_28 dX9_word_28 (by decide) (fun c_28 => ?_) (fun c_28 => ?_)
    · have hm := if_p hm c_28
      exact w_X9_word_55 F h m_endings m_slip m_guess m_base m_n m_fixedMany m_acts m_kept m_parts m_total m_found m_from0 m_kind0 m_choices 0 m_sounds m_signs m_kind m_itsClass m_words m_isRead m_isMade _ hm _ _ _ hP hD hS (lv_sub hl [0] rfl)
    · have hm := if_n hm c_28
      refine lv_iload hx hb dX9_word_31 (lv_at hl 3 rfl) ?_
      obtain ⟨g_33, hm⟩ := gd_e hm
      refine z_if_lt (tgt := 55) hx hb g_33 dX9_word_33 (by decide) (fun c_33 => ?_) (fun c_33 => ?_)
      · have hm := if_p hm c_33
        exact w_X9_word_55 F h m_endings m_slip m_guess m_base m_n m_fixedMany m_acts m_kept m_parts m_total m_found m_from0 m_kind0 m_choices 0 m_sounds m_signs m_kind m_itsClass m_words m_isRead m_isMade _ hm _ _ _ hP hD hS (lv_sub hl [0] rfl)
      · have hm := if_n hm c_33
        refine lv_iload hx hb dX9_word_36 (lv_at hl 3 rfl) ?_
        refine lv_bipush (v := zi 7) hx hb dX9_word_38 (by decide) ?_
        refine z_icmp_gt (tgt := 55) hx hb g_33 (by decide) dX9_word_40 (by decide) (fun c_40 => ?_) (fun c_40 => ?_)
        · have hm := if_p hm c_40
          exact w_X9_word_55 F h m_endings m_slip m_guess m_base m_n m_fixedMany m_acts m_kept m_parts m_total m_found m_from0 m_kind0 m_choices 0 m_sounds m_signs m_kind m_itsClass m_words m_isRead m_isMade _ hm _ _ _ hP hD hS (lv_sub hl [0] rfl)
        · have hm := if_n hm c_40
          refine lv_iload hx hb dX9_word_43 (lv_at hl 4 rfl) ?_
          refine lv_iconst (v := zi (-1)) hx hb dX9_word_45 rfl ?_
          obtain ⟨g_46, hm⟩ := gd_e hm
          refine z_icmp_lt (tgt := 55) hx hb g_46 (by decide) dX9_word_46 (by decide) (fun c_46 => ?_) (fun c_46 => ?_)
          · have hm := if_p hm c_46
            exact w_X9_word_55 F h m_endings m_slip m_guess m_base m_n m_fixedMany m_acts m_kept m_parts m_total m_found m_from0 m_kind0 m_choices 0 m_sounds m_signs m_kind m_itsClass m_words m_isRead m_isMade _ hm _ _ _ hP hD hS (lv_sub hl [0] rfl)
          · have hm := if_n hm c_46
            refine lv_iload hx hb dX9_word_49 (lv_at hl 4 rfl) ?_
            refine lv_iconst (v := zi 5) hx hb dX9_word_51 rfl ?_
            refine z_icmp_le (tgt := 60) hx hb g_46 (by decide) dX9_word_52 (by decide) (fun c_52 => ?_) (fun c_52 => ?_)
            · have hm := if_p hm c_52
              refine lv_aload_n hx hb dX9_word_60 rfl (lv_at hl 0 rfl) ?_
              refine va_get (D := gw.1) (ci := 9) (v := .int (zi m_words)) (C := RX9) (T := TX9) (N := 61) hx hb hts iX9_word_X9 hown hK.1 hP 0 rfl rfl 13 (by decide) (hts (.fieldLink RX9 180 "SoundLineModel" "words" "I") (by decide +kernel)) (fun _ h9 => h9) rfl dX9_word_61 ?_
              refine lv_bipush (v := zi 60) hx hb dX9_word_64 (by decide) ?_
              obtain ⟨g_66, hm⟩ := gd_e hm
              refine z_icmp_ne (tgt := 71) hx hb g_66 (by decide) dX9_word_66 (by decide) (fun c_66 => ?_) (fun c_66 => ?_)
              · have hm := if_n hm c_66
                refine lv_aload_n hx hb dX9_word_71 rfl (lv_at hl 0 rfl) ?_
                refine va_get (D := gw.1) (ci := 9) (v := .ref (h 1004)) (C := RX9) (T := TX9) (N := 61) hx hb hts iX9_word_X9 hown hK.1 hP 0 rfl rfl 4 (by decide) (hts (.fieldLink RX9 20 "SoundLineModel" "sounds" "[J") (by decide +kernel)) (fun _ h9 => h9) rfl dX9_word_72 ?_
                refine lv_aload_n hx hb dX9_word_75 rfl (lv_at hl 0 rfl) ?_
                refine va_get (D := gw.1) (ci := 9) (v := .int (zi m_words)) (C := RX9) (T := TX9) (N := 61) hx hb hts iX9_word_X9 hown hK.1 hP 0 rfl rfl 13 (by decide) (hts (.fieldLink RX9 180 "SoundLineModel" "words" "I") (by decide +kernel)) (fun _ h9 => h9) rfl dX9_word_76 ?_
                refine lv_lload_n hx hb dX9_word_79 rfl (lv_at hl 1 rfl) ?_
                obtain ⟨g_80, hm⟩ := gd_e hm
                obtain ⟨m_sounds_80, e_m_sounds_80, hm⟩ := vl_e hm
                refine z_last hx hb hK hP hD hS 1 rfl g_80 (by decide) e_m_sounds_80 dX9_word_80 (fun H locs hP hD hS => ?_)
                have hP : va_P gw.1 vwCl [(zOX9 h 0 m_words m_endings m_slip m_guess m_base m_n m_fixedMany m_acts m_kept m_isRead m_isMade m_parts m_total m_found m_from0 m_kind0 m_choices), (zB gw (h 1004) 60 m_sounds_80), (zB gw (h 1005) 60 m_signs), (zA gw (h 1007) 60 m_kind), (zA gw (h 1008) 60 m_itsClass)] H := hP
                have hD : va_D A [(zOX9 h 0 m_words m_endings m_slip m_guess m_base m_n m_fixedMany m_acts m_kept m_isRead m_isMade m_parts m_total m_found m_from0 m_kind0 m_choices), (zB gw (h 1004) 60 m_sounds_80), (zB gw (h 1005) 60 m_signs), (zA gw (h 1007) 60 m_kind), (zA gw (h 1008) 60 m_itsClass)] := hD
                refine lv_aload_n hx hb dX9_word_81 rfl (lv_at hl 0 rfl) ?_
                refine va_get (D := gw.1) (ci := 9) (v := .ref (h 1005)) (C := RX9) (T := TX9) (N := 61) hx hb hts iX9_word_X9 hown hK.1 hP 0 rfl rfl 5 (by decide) (hts (.fieldLink RX9 23 "SoundLineModel" "signs" "[J") (by decide +kernel)) (fun _ h9 => h9) rfl dX9_word_82 ?_
                refine lv_aload_n hx hb dX9_word_85 rfl (lv_at hl 0 rfl) ?_
                refine va_get (D := gw.1) (ci := 9) (v := .int (zi m_words)) (C := RX9) (T := TX9) (N := 61) hx hb hts iX9_word_X9 hown hK.1 hP 0 rfl rfl 13 (by decide) (hts (.fieldLink RX9 180 "SoundLineModel" "words" "I") (by decide +kernel)) (fun _ h9 => h9) rfl dX9_word_86 ?_
                refine lv_lload_n hx hb dX9_word_89 rfl (lv_at hl 2 rfl) ?_
                obtain ⟨g_90, hm⟩ := gd_e hm
                obtain ⟨m_signs_90, e_m_signs_90, hm⟩ := vl_e hm
                refine z_last hx hb hK hP hD hS 2 rfl g_90 (by decide) e_m_signs_90 dX9_word_90 (fun H locs hP hD hS => ?_)
                have hP : va_P gw.1 vwCl [(zOX9 h 0 m_words m_endings m_slip m_guess m_base m_n m_fixedMany m_acts m_kept m_isRead m_isMade m_parts m_total m_found m_from0 m_kind0 m_choices), (zB gw (h 1004) 60 m_sounds_80), (zB gw (h 1005) 60 m_signs_90), (zA gw (h 1007) 60 m_kind), (zA gw (h 1008) 60 m_itsClass)] H := hP
                have hD : va_D A [(zOX9 h 0 m_words m_endings m_slip m_guess m_base m_n m_fixedMany m_acts m_kept m_isRead m_isMade m_parts m_total m_found m_from0 m_kind0 m_choices), (zB gw (h 1004) 60 m_sounds_80), (zB gw (h 1005) 60 m_signs_90), (zA gw (h 1007) 60 m_kind), (zA gw (h 1008) 60 m_itsClass)] := hD
                refine lv_aload_n hx hb dX9_word_91 rfl (lv_at hl 0 rfl) ?_
                refine va_get (D := gw.1) (ci := 9) (v := .ref (h 1007)) (C := RX9) (T := TX9) (N := 61) hx hb hts iX9_word_X9 hown hK.1 hP 0 rfl rfl 7 (by decide) (hts (.fieldLink RX9 29 "SoundLineModel" "kind" "[I") (by decide +kernel)) (fun _ h9 => h9) rfl dX9_word_92 ?_
                refine lv_aload_n hx hb dX9_word_95 rfl (lv_at hl 0 rfl) ?_
                refine va_get (D := gw.1) (ci := 9) (v := .int (zi m_words)) (C := RX9) (T := TX9) (N := 61) hx hb hts iX9_word_X9 hown hK.1 hP 0 rfl rfl 13 (by decide) (hts (.fieldLink RX9 180 "SoundLineModel" "words" "I") (by decide +kernel)) (fun _ h9 => h9) rfl dX9_word_96 ?_
                refine lv_iload hx hb dX9_word_99 (lv_at hl 3 rfl) ?_
                obtain ⟨g_101, hm⟩ := gd_e hm
                obtain ⟨m_kind_101, e_m_kind_101, hm⟩ := vl_e hm
                refine z_iast hx hb hK hP hD hS 3 rfl g_101 (by decide) e_m_kind_101 dX9_word_101 (fun H locs hP hD hS => ?_)
                have hP : va_P gw.1 vwCl [(zOX9 h 0 m_words m_endings m_slip m_guess m_base m_n m_fixedMany m_acts m_kept m_isRead m_isMade m_parts m_total m_found m_from0 m_kind0 m_choices), (zB gw (h 1004) 60 m_sounds_80), (zB gw (h 1005) 60 m_signs_90), (zA gw (h 1007) 60 m_kind_101), (zA gw (h 1008) 60 m_itsClass)] H := hP
                have hD : va_D A [(zOX9 h 0 m_words m_endings m_slip m_guess m_base m_n m_fixedMany m_acts m_kept m_isRead m_isMade m_parts m_total m_found m_from0 m_kind0 m_choices), (zB gw (h 1004) 60 m_sounds_80), (zB gw (h 1005) 60 m_signs_90), (zA gw (h 1007) 60 m_kind_101), (zA gw (h 1008) 60 m_itsClass)] := hD
                refine lv_aload_n hx hb dX9_word_102 rfl (lv_at hl 0 rfl) ?_
                refine va_get (D := gw.1) (ci := 9) (v := .ref (h 1008)) (C := RX9) (T := TX9) (N := 61) hx hb hts iX9_word_X9 hown hK.1 hP 0 rfl rfl 8 (by decide) (hts (.fieldLink RX9 32 "SoundLineModel" "itsClass" "[I") (by decide +kernel)) (fun _ h9 => h9) rfl dX9_word_103 ?_
                refine lv_aload_n hx hb dX9_word_106 rfl (lv_at hl 0 rfl) ?_
                refine va_get (D := gw.1) (ci := 9) (v := .int (zi m_words)) (C := RX9) (T := TX9) (N := 61) hx hb hts iX9_word_X9 hown hK.1 hP 0 rfl rfl 13 (by decide) (hts (.fieldLink RX9 180 "SoundLineModel" "words" "I") (by decide +kernel)) (fun _ h9 => h9) rfl dX9_word_107 ?_
                refine lv_iload hx hb dX9_word_110 (lv_at hl 4 rfl) ?_
                obtain ⟨g_112, hm⟩ := gd_e hm
                obtain ⟨m_itsClass_112, e_m_itsClass_112, hm⟩ := vl_e hm
                refine z_iast hx hb hK hP hD hS 4 rfl g_112 (by decide) e_m_itsClass_112 dX9_word_112 (fun H locs hP hD hS => ?_)
                have hP : va_P gw.1 vwCl [(zOX9 h 0 m_words m_endings m_slip m_guess m_base m_n m_fixedMany m_acts m_kept m_isRead m_isMade m_parts m_total m_found m_from0 m_kind0 m_choices), (zB gw (h 1004) 60 m_sounds_80), (zB gw (h 1005) 60 m_signs_90), (zA gw (h 1007) 60 m_kind_101), (zA gw (h 1008) 60 m_itsClass_112)] H := hP
                have hD : va_D A [(zOX9 h 0 m_words m_endings m_slip m_guess m_base m_n m_fixedMany m_acts m_kept m_isRead m_isMade m_parts m_total m_found m_from0 m_kind0 m_choices), (zB gw (h 1004) 60 m_sounds_80), (zB gw (h 1005) 60 m_signs_90), (zA gw (h 1007) 60 m_kind_101), (zA gw (h 1008) 60 m_itsClass_112)] := hD
                refine lv_aload_n hx hb dX9_word_113 rfl (lv_at hl 0 rfl) ?_
                refine lv_dup hx hb dX9_word_114 rfl ?_
                refine va_get (D := gw.1) (ci := 9) (v := .int (zi m_words)) (C := RX9) (T := TX9) (N := 61) hx hb hts iX9_word_X9 hown hK.1 hP 0 rfl rfl 13 (by decide) (hts (.fieldLink RX9 180 "SoundLineModel" "words" "I") (by decide +kernel)) (fun _ h9 => h9) rfl dX9_word_115 ?_
                refine lv_iconst (v := zi 1) hx hb dX9_word_118 rfl ?_
                refine z_iadd hx hb dX9_word_119 ?_
                obtain ⟨m_words_120, e_m_words_120, hm⟩ := vl_e hm
                refine z_top e_m_words_120 ?_
                refine va_put (D := gw.1) (ci := 9) (v := .int (zi m_words_120)) (ty := .int) (C := RX9) (T := TX9) (N := 61) hx hb hts iX9_word_X9 tyX9 tyX9_ok nmX9 hown hK.1 hP hD hS 0 rfl rfl 13 (by decide) (hts (.fieldLink RX9 180 "SoundLineModel" "words" "I") (by decide +kernel)) (fun _ h9 => h9) rfl (by decide +kernel) rfl rfl (Nat.le_of_ble_eq_true rfl) dX9_word_120 (fun H locs hP hD hS => ?_)
                have hP : va_P gw.1 vwCl [(zOX9 h 0 m_words_120 m_endings m_slip m_guess m_base m_n m_fixedMany m_acts m_kept m_isRead m_isMade m_parts m_total m_found m_from0 m_kind0 m_choices), (zB gw (h 1004) 60 m_sounds_80), (zB gw (h 1005) 60 m_signs_90), (zA gw (h 1007) 60 m_kind_101), (zA gw (h 1008) 60 m_itsClass_112)] H := hP
                have hD : va_D A [(zOX9 h 0 m_words_120 m_endings m_slip m_guess m_base m_n m_fixedMany m_acts m_kept m_isRead m_isMade m_parts m_total m_found m_from0 m_kind0 m_choices), (zB gw (h 1004) 60 m_sounds_80), (zB gw (h 1005) 60 m_signs_90), (zA gw (h 1007) 60 m_kind_101), (zA gw (h 1008) 60 m_itsClass_112)] := hD
                refine lv_aload_n hx hb dX9_word_123 rfl (lv_at hl 0 rfl) ?_
                obtain ⟨u_124, hu_124, hm⟩ := bd_e hm
                obtain ⟨m_isRead_124, m_isMade_124⟩ := u_124
                refine z_callV (As := []) (rest := []) (wr := [(zB gw (h 1004) 60 m_sounds_80), (zB gw (h 1005) 60 m_signs_90), (zA gw (h 1007) 60 m_kind_101), (zA gw (h 1008) 60 m_itsClass_112)]) (ws' := [(zOX9 h 0 m_words_120 m_endings m_slip m_guess m_base m_n m_fixedMany m_acts m_kept m_isRead_124 m_isMade_124 m_parts m_total m_found m_from0 m_kind0 m_choices), (zB gw (h 1004) 60 m_sounds_80), (zB gw (h 1005) 60 m_signs_90), (zA gw (h 1007) 60 m_kind_101), (zA gw (h 1008) 60 m_itsClass_112)]) ⟨hx, hb, hml, hown, hts⟩ (c_X9_changed l gw h 0 m_words_120 m_endings m_slip m_guess m_base m_n m_fixedMany m_acts m_kept m_parts m_total m_found m_from0 m_kind0 m_choices m_isRead m_isMade _ hu_124 H.size) (cwV 0 hts gX9_word_X9_changed rfl rfl rfl (by decide +kernel) ⟨Nat.le_of_ble_eq_true rfl, Nat.le_of_ble_eq_true rfl⟩) hK hP hD hS hA [0] [1, 2, 3, 4] [4, 0, 1, 2, 3] (by decide) rfl rfl (by decide) (by decide) rfl (by decide) 0 9 rfl rfl rfl rfl hl.1 (Nat.le_of_ble_eq_true rfl) dX9_word_124 ⟨Nat.zero_le _, Nat.zero_le _⟩ rfl (fun H locs hP hD hS => ?_)
                have hP : va_P gw.1 vwCl [(zOX9 h 0 m_words_120 m_endings m_slip m_guess m_base m_n m_fixedMany m_acts m_kept m_isRead_124 m_isMade_124 m_parts m_total m_found m_from0 m_kind0 m_choices), (zB gw (h 1004) 60 m_sounds_80), (zB gw (h 1005) 60 m_signs_90), (zA gw (h 1007) 60 m_kind_101), (zA gw (h 1008) 60 m_itsClass_112)] H := hP
                have hD : va_D A [(zOX9 h 0 m_words_120 m_endings m_slip m_guess m_base m_n m_fixedMany m_acts m_kept m_isRead_124 m_isMade_124 m_parts m_total m_found m_from0 m_kind0 m_choices), (zB gw (h 1004) 60 m_sounds_80), (zB gw (h 1005) 60 m_signs_90), (zA gw (h 1007) 60 m_kind_101), (zA gw (h 1008) 60 m_itsClass_112)] := hD
                refine W.eq (g2 := F0 m 127 ls []) rfl ?_
                refine lv_aload_n hx hb dX9_word_127 rfl (lv_at hl 0 rfl) ?_
                refine va_get (D := gw.1) (ci := 9) (v := .int (zi m_words_120)) (C := RX9) (T := TX9) (N := 61) hx hb hts iX9_word_X9 hown hK.1 hP 0 rfl rfl 13 (by decide) (hts (.fieldLink RX9 180 "SoundLineModel" "words" "I") (by decide +kernel)) (fun _ h9 => h9) rfl dX9_word_128 ?_
                refine lv_iconst (v := zi 1) hx hb dX9_word_131 rfl ?_
                refine z_isub hx hb dX9_word_132 ?_
                cases hm
                exact z_iret hx hb hr hlk hP hD hS dX9_word_133
              · have hm := if_p hm c_66
                refine lv_iconst (v := zi (-1)) hx hb dX9_word_69 rfl ?_
                cases hm
                exact z_iret hx hb hr hlk hP hD hS dX9_word_70
            · have hm := if_n hm c_52
              exact w_X9_word_55 F h m_endings m_slip m_guess m_base m_n m_fixedMany m_acts m_kept m_parts m_total m_found m_from0 m_kind0 m_choices 0 m_sounds m_signs m_kind m_itsClass m_words m_isRead m_isMade _ hm _ _ _ hP hD hS (lv_sub hl [0] rfl)
theorem c_X9_word (l : Launch) (gw : zG) (h : Nat → Nat) (m_endings : Int) (m_slip : Int) (m_guess : Int) (m_base : Int) (m_n : Int) (m_fixedMany : Int) (m_acts : Int) (m_kept : Int) (m_parts : Int) (m_total : Int) (m_found : Int) (m_from0 : Int) (m_kind0 : Int) (m_choices : Int) (x1 : Int) (x3 : Int) (x5 : Int) (x6 : Int) (m_code : Int) (m_sounds : Nat → Int) (m_signs : Nat → Int) (m_kind : Nat → Int) (m_itsClass : Nat → Int) (m_words : Int) (m_isRead : Int) (m_isMade : Int) (u : Int × Int × (Nat → Int) × (Nat → Int) × (Nat → Int) × (Nat → Int) × Int × Int × Int) (hm : m_X9_word x1 x3 x5 x6 m_code m_sounds m_signs m_kind m_itsClass m_words m_isRead m_isMade = some u) (sz : Nat) : Met l yX9_word wsX9_word rmX9_word (va_Pc [.ref (h 9), .long (zl x1), .long (zl x3), .int (zi x5), .int (zi x6)] (zPre gw [(zOX9 h m_code m_words m_endings m_slip m_guess m_base m_n m_fixedMany m_acts m_kept m_isRead m_isMade m_parts m_total m_found m_from0 m_kind0 m_choices), (zB gw (h 1004) 60 m_sounds), (zB gw (h 1005) 60 m_signs), (zA gw (h 1007) 60 m_kind), (zA gw (h 1008) 60 m_itsClass)] sz)) (zQ gw (some (.int (zi u.1))) [(zOX9 h (u.2.1) (u.2.2.2.2.2.2.1) m_endings m_slip m_guess m_base m_n m_fixedMany m_acts m_kept (u.2.2.2.2.2.2.2.1) (u.2.2.2.2.2.2.2.2) m_parts m_total m_found m_from0 m_kind0 m_choices), (zB gw (h 1004) 60 (u.2.2.1)), (zB gw (h 1005) 60 (u.2.2.2.1)), (zA gw (h 1007) 60 (u.2.2.2.2.1)), (zA gw (h 1008) 60 (u.2.2.2.2.2.1))] (va_A [(zOX9 h m_code m_words m_endings m_slip m_guess m_base m_n m_fixedMany m_acts m_kept m_isRead m_isMade m_parts m_total m_found m_from0 m_kind0 m_choices), (zB gw (h 1004) 60 m_sounds), (zB gw (h 1005) 60 m_signs), (zA gw (h 1007) 60 m_kind), (zA gw (h 1008) 60 m_itsClass)] sz)) 0 0 (va_A [(zOX9 h m_code m_words m_endings m_slip m_guess m_base m_n m_fixedMany m_acts m_kept m_isRead m_isMade m_parts m_total m_found m_from0 m_kind0 m_choices), (zB gw (h 1004) 60 m_sounds), (zB gw (h 1005) 60 m_signs), (zA gw (h 1007) 60 m_kind), (zA gw (h 1008) 60 m_itsClass)] sz) :=
  z_met (by decide) rfl (Nat.le_of_ble_eq_true rfl) rfl (fun p e s m args below meth c A F hsz ls hl hP hD => w_X9_word F h m_endings m_slip m_guess m_base m_n m_fixedMany m_acts m_kept m_parts m_total m_found m_from0 m_kind0 m_choices x1 x3 x5 x6 m_code m_sounds m_signs m_kind m_itsClass m_words m_isRead m_isMade u hm s.heap [] ls hP hD va_S.rf hl)
abbrev rmX9_ending : Room := { frames := 3, cells := 0, slots := 0, locals := 73 }
theorem iX9_ending_X9 : ∀ w ∈ wsX90, w ∈ wsX9_ending := by decide +kernel
def m_X9_ending_52 (m_code : Int) (m_endSounds : Nat → Int) (m_endSign : Nat → Int) (m_endClass : Nat → Int) (m_endPrice : Nat → Int) (m_endings : Int) (m_isRead : Int) (m_isMade : Int) : Option (Int × Int × (Nat → Int) × (Nat → Int) × (Nat → Int) × (Nat → Int) × Int × Int × Int) :=
  (m_X9_fail m_code).bind fun (r_53, m_code_53) =>
  some (r_53, m_code_53, m_endSounds, m_endSign, m_endClass, m_endPrice, m_endings, m_isRead, m_isMade)
set_option maxHeartbeats 4000000 in
set_option maxRecDepth 100000 in
theorem w_X9_ending_52 (F : zF p s m args meth c A gw cX9_ending 6 (some .int) wsX9_ending yX9_ending) (h : Nat → Nat) (m_words : Int) (m_slip : Int) (m_guess : Int) (m_base : Int) (m_n : Int) (m_fixedMany : Int) (m_acts : Int) (m_kept : Int) (m_parts : Int) (m_total : Int) (m_found : Int) (m_from0 : Int) (m_kind0 : Int) (m_choices : Int) (m_code : Int) (m_endSounds : Nat → Int) (m_endSign : Nat → Int) (m_endClass : Nat → Int) (m_endPrice : Nat → Int) (m_endings : Int) (m_isRead : Int) (m_isMade : Int) (u : Int × Int × (Nat → Int) × (Nat → Int) × (Nat → Int) × (Nat → Int) × Int × Int × Int) (hm : m_X9_ending_52 m_code m_endSounds m_endSign m_endClass m_endPrice m_endings m_isRead m_isMade = some u) (H : Heap) (locs : List Loc) (ls : Array Slot) (hP : va_P gw.1 vwCl [(zOX9 h m_code m_words m_endings m_slip m_guess m_base m_n m_fixedMany m_acts m_kept m_isRead m_isMade m_parts m_total m_found m_from0 m_kind0 m_choices), (zB gw (h 1006) 8 m_endSounds), (zA gw (h 1010) 8 m_endSign), (zA gw (h 1011) 8 m_endClass), (zA gw (h 1012) 8 m_endPrice)] H) (hD : va_D A [(zOX9 h m_code m_words m_endings m_slip m_guess m_base m_n m_fixedMany m_acts m_kept m_isRead m_isMade m_parts m_total m_found m_from0 m_kind0 m_choices), (zB gw (h 1006) 8 m_endSounds), (zA gw (h 1010) 8 m_endSign), (zA gw (h 1011) 8 m_endClass), (zA gw (h 1012) 8 m_endPrice)]) (hS : va_S A s.heap H locs) (hl : lv_has ls 6 [(0, .ref (h 9))]) : W p l e rmX9_ending s m args below meth c H locs 0 0 (MQ below (zQ gw (some (.int (zi u.1))) [(zOX9 h (u.2.1) m_words (u.2.2.2.2.2.2.1) m_slip m_guess m_base m_n m_fixedMany m_acts m_kept (u.2.2.2.2.2.2.2.1) (u.2.2.2.2.2.2.2.2) m_parts m_total m_found m_from0 m_kind0 m_choices), (zB gw (h 1006) 8 (u.2.2.1)), (zA gw (h 1010) 8 (u.2.2.2.1)), (zA gw (h 1011) 8 (u.2.2.2.2.1)), (zA gw (h 1012) 8 (u.2.2.2.2.2.1))] A) args s 0 0 A) (F0 m 52 ls []) := by
  obtain ⟨hx, hb, hml, hr, hown, hts, hlk, hK, hA, hnm⟩ := id F
  have hown : s.vm.findClass RX9 = some m.cls := hown
  unfold m_X9_ending_52 at hm
  refine lv_aload_n hx hb dX9_ending_52 rfl (lv_at hl 0 rfl) ?_
  obtain ⟨u_53, hu_53, hm⟩ := bd_e hm
  obtain ⟨r_53, m_code_53⟩ := u_53
  refine z_callV (As := []) (rest := []) (wr := [(zB gw (h 1006) 8 m_endSounds), (zA gw (h 1010) 8 m_endSign), (zA gw (h 1011) 8 m_endClass), (zA gw (h 1012) 8 m_endPrice)]) (ws' := [(zOX9 h m_code_53 m_words m_endings m_slip m_guess m_base m_n m_fixedMany m_acts m_kept m_isRead m_isMade m_parts m_total m_found m_from0 m_kind0 m_choices), (zB gw (h 1006) 8 m_endSounds), (zA gw (h 1010) 8 m_endSign), (zA gw (h 1011) 8 m_endClass), (zA gw (h 1012) 8 m_endPrice)]) ⟨hx, hb, hml, hown, hts⟩ (c_X9_fail l gw h m_words m_endings m_slip m_guess m_base m_n m_fixedMany m_acts m_kept m_isRead m_isMade m_parts m_total m_found m_from0 m_kind0 m_choices m_code _ hu_53 H.size) (cwV 0 hts gX9_ending_X9_fail rfl rfl rfl (by decide +kernel) ⟨Nat.le_of_ble_eq_true rfl, Nat.le_of_ble_eq_true rfl⟩) hK hP hD hS hA [0] [1, 2, 3, 4] [4, 0, 1, 2, 3] (by decide) rfl rfl (by decide) (by decide) rfl (by decide) 0 9 rfl rfl rfl rfl hl.1 (Nat.le_of_ble_eq_true rfl) dX9_ending_53 ⟨Nat.zero_le _, Nat.zero_le _⟩ rfl (fun H locs hP hD hS => ?_)
  have hP : va_P gw.1 vwCl [(zOX9 h m_code_53 m_words m_endings m_slip m_guess m_base m_n m_fixedMany m_acts m_kept m_isRead m_isMade m_parts m_total m_found m_from0 m_kind0 m_choices), (zB gw (h 1006) 8 m_endSounds), (zA gw (h 1010) 8 m_endSign), (zA gw (h 1011) 8 m_endClass), (zA gw (h 1012) 8 m_endPrice)] H := hP
  have hD : va_D A [(zOX9 h m_code_53 m_words m_endings m_slip m_guess m_base m_n m_fixedMany m_acts m_kept m_isRead m_isMade m_parts m_total m_found m_from0 m_kind0 m_choices), (zB gw (h 1006) 8 m_endSounds), (zA gw (h 1010) 8 m_endSign), (zA gw (h 1011) 8 m_endClass), (zA gw (h 1012) 8 m_endPrice)] := hD
  refine W.eq (g2 := F0 m 56 ls [.int (zi r_53)]) rfl ?_
  cases hm
  exact z_iret hx hb hr hlk hP hD hS dX9_ending_56
def m_X9_ending (x1 : Int) (x3 : Int) (x4 : Int) (x5 : Int) (m_code : Int) (m_endSounds : Nat → Int) (m_endSign : Nat → Int) (m_endClass : Nat → Int) (m_endPrice : Nat → Int) (m_endings : Int) (m_isRead : Int) (m_isMade : Int) : Option (Int × Int × (Nat → Int) × (Nat → Int) × (Nat → Int) × (Nat → Int) × Int × Int × Int) :=
  (m_X9_isRow x1 6 3 50).bind fun r_11 =>
  gd (inI r_11) <|
  if r_11 = 0 then
    m_X9_ending_52 0 m_endSounds m_endSign m_endClass m_endPrice m_endings m_isRead m_isMade
  else
    gd (inI x3) <|
    if x3 < 1 then
      m_X9_ending_52 0 m_endSounds m_endSign m_endClass m_endPrice m_endings m_isRead m_isMade
    else
      if 16383 < x3 then
        m_X9_ending_52 0 m_endSounds m_endSign m_endClass m_endPrice m_endings m_isRead m_isMade
      else
        gd (inI x4) <|
        if x4 < 0 then
          m_X9_ending_52 0 m_endSounds m_endSign m_endClass m_endPrice m_endings m_isRead m_isMade
        else
          if 5 < x4 then
            m_X9_ending_52 0 m_endSounds m_endSign m_endClass m_endPrice m_endings m_isRead m_isMade
          else
            gd (inI x5) <|
            if x5 < 0 then
              m_X9_ending_52 0 m_endSounds m_endSign m_endClass m_endPrice m_endings m_isRead m_isMade
            else
              if x5 ≤ 60 then
                gd (inI m_endings) <|
                if m_endings = 8 then
                  some ((-1), 0, m_endSounds, m_endSign, m_endClass, m_endPrice, m_endings, m_isRead, m_isMade)
                else
                  gd (0 ≤ m_endings ∧ m_endings < 8) <|
                  vl (uz m_endSounds (Int.toNat m_endings) x1) fun m_endSounds_77 =>
                  gd (0 ≤ m_endings ∧ m_endings < 8) <|
                  vl (uz m_endSign (Int.toNat m_endings) x3) fun m_endSign_87 =>
                  gd (0 ≤ m_endings ∧ m_endings < 8) <|
                  vl (uz m_endClass (Int.toNat m_endings) x4) fun m_endClass_98 =>
                  gd (0 ≤ m_endings ∧ m_endings < 8) <|
                  vl (uz m_endPrice (Int.toNat m_endings) x5) fun m_endPrice_109 =>
                  vl (m_endings + 1) fun m_endings_117 =>
                  (m_X9_changed m_isRead m_isMade).bind fun (m_isRead_121, m_isMade_121) =>
                  some ((m_endings_117 - 1), 0, m_endSounds_77, m_endSign_87, m_endClass_98, m_endPrice_109, m_endings_117, m_isRead_121, m_isMade_121)
              else
                m_X9_ending_52 0 m_endSounds m_endSign m_endClass m_endPrice m_endings m_isRead m_isMade
set_option maxHeartbeats 4000000 in
set_option maxRecDepth 100000 in
theorem w_X9_ending (F : zF p s m args meth c A gw cX9_ending 6 (some .int) wsX9_ending yX9_ending) (h : Nat → Nat) (m_words : Int) (m_slip : Int) (m_guess : Int) (m_base : Int) (m_n : Int) (m_fixedMany : Int) (m_acts : Int) (m_kept : Int) (m_parts : Int) (m_total : Int) (m_found : Int) (m_from0 : Int) (m_kind0 : Int) (m_choices : Int) (x1 : Int) (x3 : Int) (x4 : Int) (x5 : Int) (m_code : Int) (m_endSounds : Nat → Int) (m_endSign : Nat → Int) (m_endClass : Nat → Int) (m_endPrice : Nat → Int) (m_endings : Int) (m_isRead : Int) (m_isMade : Int) (u : Int × Int × (Nat → Int) × (Nat → Int) × (Nat → Int) × (Nat → Int) × Int × Int × Int) (hm : m_X9_ending x1 x3 x4 x5 m_code m_endSounds m_endSign m_endClass m_endPrice m_endings m_isRead m_isMade = some u) (H : Heap) (locs : List Loc) (ls : Array Slot) (hP : va_P gw.1 vwCl [(zOX9 h m_code m_words m_endings m_slip m_guess m_base m_n m_fixedMany m_acts m_kept m_isRead m_isMade m_parts m_total m_found m_from0 m_kind0 m_choices), (zB gw (h 1006) 8 m_endSounds), (zA gw (h 1010) 8 m_endSign), (zA gw (h 1011) 8 m_endClass), (zA gw (h 1012) 8 m_endPrice)] H) (hD : va_D A [(zOX9 h m_code m_words m_endings m_slip m_guess m_base m_n m_fixedMany m_acts m_kept m_isRead m_isMade m_parts m_total m_found m_from0 m_kind0 m_choices), (zB gw (h 1006) 8 m_endSounds), (zA gw (h 1010) 8 m_endSign), (zA gw (h 1011) 8 m_endClass), (zA gw (h 1012) 8 m_endPrice)]) (hS : va_S A s.heap H locs) (hl : lv_has ls 6 [(0, .ref (h 9)), (1, .long (zl x1)), (3, .int (zi x3)), (4, .int (zi x4)), (5, .int (zi x5))]) : W p l e rmX9_ending s m args below meth c H locs 0 0 (MQ below (zQ gw (some (.int (zi u.1))) [(zOX9 h (u.2.1) m_words (u.2.2.2.2.2.2.1) m_slip m_guess m_base m_n m_fixedMany m_acts m_kept (u.2.2.2.2.2.2.2.1) (u.2.2.2.2.2.2.2.2) m_parts m_total m_found m_from0 m_kind0 m_choices), (zB gw (h 1006) 8 (u.2.2.1)), (zA gw (h 1010) 8 (u.2.2.2.1)), (zA gw (h 1011) 8 (u.2.2.2.2.1)), (zA gw (h 1012) 8 (u.2.2.2.2.2.1))] A) args s 0 0 A) (F0 m 0 ls []) := by
  obtain ⟨hx, hb, hml, hr, hown, hts, hlk, hK, hA, hnm⟩ := id F
  have hown : s.vm.findClass RX9 = some m.cls := hown
  unfold m_X9_ending at hm
  refine lv_aload_n hx hb dX9_ending_0 rfl (lv_at hl 0 rfl) ?_
  refine lv_iconst (v := zi 0) hx hb dX9_ending_1 rfl ?_
  refine va_put (D := gw.1) (ci := 9) (v := .int (zi 0)) (ty := .int) (C := RX9) (T := TX9) (N := 61) hx hb hts iX9_ending_X9 tyX9 tyX9_ok nmX9 hown hK.1 hP hD hS 0 rfl rfl 0 (by decide) (hts (.fieldLink RX9 151 "SoundLineModel" "code" "I") (by decide +kernel)) (fun _ h9 => h9) rfl (by decide +kernel) rfl rfl (Nat.le_of_ble_eq_true rfl) dX9_ending_2 (fun H locs hP hD hS => ?_)
  have hP : va_P gw.1 vwCl [(zOX9 h 0 m_words m_endings m_slip m_guess m_base m_n m_fixedMany m_acts m_kept m_isRead m_isMade m_parts m_total m_found m_from0 m_kind0 m_choices), (zB gw (h 1006) 8 m_endSounds), (zA gw (h 1010) 8 m_endSign), (zA gw (h 1011) 8 m_endClass), (zA gw (h 1012) 8 m_endPrice)] H := hP
  have hD : va_D A [(zOX9 h 0 m_words m_endings m_slip m_guess m_base m_n m_fixedMany m_acts m_kept m_isRead m_isMade m_parts m_total m_found m_from0 m_kind0 m_choices), (zB gw (h 1006) 8 m_endSounds), (zA gw (h 1010) 8 m_endSign), (zA gw (h 1011) 8 m_endClass), (zA gw (h 1012) 8 m_endPrice)] := hD
  refine lv_lload_n hx hb dX9_ending_5 rfl (lv_at hl 1 rfl) ?_
  refine lv_bipush (v := zi 6) hx hb dX9_ending_6 (by decide) ?_
  refine lv_iconst (v := zi 3) hx hb dX9_ending_8 rfl ?_
  refine lv_bipush (v := zi 50) hx hb dX9_ending_9 (by decide) ?_
  obtain ⟨r_11, hr_11, hm⟩ := bd_e hm
  refine z_callS (As := [.long (zl x1), .int (zi 6), .int (zi 3), .int (zi 50)]) (rest := []) (wr := [(zOX9 h 0 m_words m_endings m_slip m_guess m_base m_n m_fixedMany m_acts m_kept m_isRead m_isMade m_parts m_total m_found m_from0 m_kind0 m_choices), (zB gw (h 1006) 8 m_endSounds), (zA gw (h 1010) 8 m_endSign), (zA gw (h 1011) 8 m_endClass), (zA gw (h 1012) 8 m_endPrice)]) (ws' := [(zOX9 h 0 m_words m_endings m_slip m_guess m_base m_n m_fixedMany m_acts m_kept m_isRead m_isMade m_parts m_total m_found m_from0 m_kind0 m_choices), (zB gw (h 1006) 8 m_endSounds), (zA gw (h 1010) 8 m_endSign), (zA gw (h 1011) 8 m_endClass), (zA gw (h 1012) 8 m_endPrice)]) ⟨hx, hb, hml, hown, hts⟩ (c_X9_isRow l gw h x1 6 3 50 r_11 hr_11 H.size) (va_cwS 4 hts gX9_ending_X9_isRow rfl rfl rfl (by decide +kernel) ⟨Nat.le_of_ble_eq_true rfl, Nat.le_of_ble_eq_true rfl⟩) hK hP hD hS hA [] [0, 1, 2, 3, 4] [0, 1, 2, 3, 4] (by decide) rfl rfl (by decide) (by decide) rfl (by decide) rfl hl.1 (Nat.le_of_ble_eq_true rfl) dX9_ending_11 ⟨Nat.zero_le _, Nat.zero_le _⟩ rfl (fun H locs hP hD hS => ?_)
  have hP : va_P gw.1 vwCl [(zOX9 h 0 m_words m_endings m_slip m_guess m_base m_n m_fixedMany m_acts m_kept m_isRead m_isMade m_parts m_total m_found m_from0 m_kind0 m_choices), (zB gw (h 1006) 8 m_endSounds), (zA gw (h 1010) 8 m_endSign), (zA gw (h 1011) 8 m_endClass), (zA gw (h 1012) 8 m_endPrice)] H := hP
  have hD : va_D A [(zOX9 h 0 m_words m_endings m_slip m_guess m_base m_n m_fixedMany m_acts m_kept m_isRead m_isMade m_parts m_total m_found m_from0 m_kind0 m_choices), (zB gw (h 1006) 8 m_endSounds), (zA gw (h 1010) 8 m_endSign), (zA gw (h 1011) 8 m_endClass), (zA gw (h 1012) 8 m_endPrice)] := hD
  refine W.eq (g2 := F0 m 14 ls [.int (zi r_11)]) rfl ?_
  obtain ⟨g_14, hm⟩ := gd_e hm
  refine z_if_eq (tgt := 52) hx hb g_14 dX9_ending_14 (by decide) (fun c_14 => ?_) (fun c_14 => ?_)
  · have hm := if_p hm c_14
    exact w_X9_ending_52 F h m_words m_slip m_guess m_base m_n m_fixedMany m_acts m_kept m_parts m_total m_found m_from0 m_kind0 m_choices 0 m_endSounds m_endSign m_endClass m_endPrice m_endings m_isRead m_isMade _ hm _ _ _ hP hD hS (lv_sub hl [0] rfl)
  · have hm := if_n hm c_14
    refine lv_iload_n hx hb dX9_ending_17 rfl (lv_at hl 2 rfl) ?_
    refine lv_iconst (v := zi 1) hx hb dX9_ending_18 rfl ?_
    obtain ⟨g_19, hm⟩ := gd_e hm
    refine z_icmp_lt (tgt := 52) hx hb g_19 (by decide) dX9_ending_19 (by decide) (fun c_19 => ?_) (fun c_19 => ?_)
    · have hm := if_p hm c_19
      exact w_X9_ending_52 F h m_words m_slip m_guess m_base m_n m_fixedMany m_acts m_kept m_parts m_total m_found m_from0 m_kind0 m_choices 0 m_endSounds m_endSign m_endClass m_endPrice m_endings m_isRead m_isMade _ hm _ _ _ hP hD hS (lv_sub hl [0] rfl)
    · have hm := if_n hm c_19
      refine lv_iload_n hx hb dX9_ending_22 rfl (lv_at hl 2 rfl) ?_
      refine lv_sipush (v := zi 16383) hx hb dX9_ending_23 (by decide) ?_
      refine z_icmp_gt (tgt := 52) hx hb g_19 (by decide) dX9_ending_26 (by decide) (fun c_26 => ?_) (fun c_26 => ?_)
      · have hm := if_p hm c_26
        exact w_X9_ending_52 F h m_words m_slip m_guess m_base m_n m_fixedMany m_acts m_kept m_parts m_total m_found m_from0 m_kind0 m_choices 0 m_endSounds m_endSign m_endClass m_endPrice m_endings m_isRead m_isMade _ hm _ _ _ hP hD hS (lv_sub hl [0] rfl)
      · have hm := if_n hm c_26
        refine lv_iload hx hb dX9_ending_29 (lv_at hl 3 rfl) ?_
        obtain ⟨g_31, hm⟩ := gd_e hm
        refine z_if_lt (tgt := 52) hx hb g_31 dX9_ending_31 (by decide) (fun c_31 => ?_) (fun c_31 => ?_)
        · have hm := if_p hm c_31
          exact w_X9_ending_52 F h m_words m_slip m_guess m_base m_n m_fixedMany m_acts m_kept m_parts m_total m_found m_from0 m_kind0 m_choices 0 m_endSounds m_endSign m_endClass m_endPrice m_endings m_isRead m_isMade _ hm _ _ _ hP hD hS (lv_sub hl [0] rfl)
        · have hm := if_n hm c_31
          refine lv_iload hx hb dX9_ending_34 (lv_at hl 3 rfl) ?_
          refine lv_iconst (v := zi 5) hx hb dX9_ending_36 rfl ?_
          refine z_icmp_gt (tgt := 52) hx hb g_31 (by decide) dX9_ending_37 (by decide) (fun c_37 => ?_) (fun c_37 => ?_)
          · have hm := if_p hm c_37
            exact w_X9_ending_52 F h m_words m_slip m_guess m_base m_n m_fixedMany m_acts m_kept m_parts m_total m_found m_from0 m_kind0 m_choices 0 m_endSounds m_endSign m_endClass m_endPrice m_endings m_isRead m_isMade _ hm _ _ _ hP hD hS (lv_sub hl [0] rfl)
          · have hm := if_n hm c_37
            refine lv_iload hx hb dX9_ending_40 (lv_at hl 4 rfl) ?_
            obtain ⟨g_42, hm⟩ := gd_e hm
            refine z_if_lt (tgt := 52) hx hb g_42 dX9_ending_42 (by decide) (fun c_42 => ?_) (fun c_42 => ?_)
            · have hm := if_p hm c_42
              exact w_X9_ending_52 F h m_words m_slip m_guess m_base m_n m_fixedMany m_acts m_kept m_parts m_total m_found m_from0 m_kind0 m_choices 0 m_endSounds m_endSign m_endClass m_endPrice m_endings m_isRead m_isMade _ hm _ _ _ hP hD hS (lv_sub hl [0] rfl)
            · have hm := if_n hm c_42
              refine lv_iload hx hb dX9_ending_45 (lv_at hl 4 rfl) ?_
              refine lv_bipush (v := zi 60) hx hb dX9_ending_47 (by decide) ?_
              refine z_icmp_le (tgt := 57) hx hb g_42 (by decide) dX9_ending_49 (by decide) (fun c_49 => ?_) (fun c_49 => ?_)
              · have hm := if_p hm c_49
                refine lv_aload_n hx hb dX9_ending_57 rfl (lv_at hl 0 rfl) ?_
                refine va_get (D := gw.1) (ci := 9) (v := .int (zi m_endings)) (C := RX9) (T := TX9) (N := 61) hx hb hts iX9_ending_X9 hown hK.1 hP 0 rfl rfl 14 (by decide) (hts (.fieldLink RX9 183 "SoundLineModel" "endings" "I") (by decide +kernel)) (fun _ h9 => h9) rfl dX9_ending_58 ?_
                refine lv_bipush (v := zi 8) hx hb dX9_ending_61 (by decide) ?_
                obtain ⟨g_63, hm⟩ := gd_e hm
                refine z_icmp_ne (tgt := 68) hx hb g_63 (by decide) dX9_ending_63 (by decide) (fun c_63 => ?_) (fun c_63 => ?_)
                · have hm := if_n hm c_63
                  refine lv_aload_n hx hb dX9_ending_68 rfl (lv_at hl 0 rfl) ?_
                  refine va_get (D := gw.1) (ci := 9) (v := .ref (h 1006)) (C := RX9) (T := TX9) (N := 61) hx hb hts iX9_ending_X9 hown hK.1 hP 0 rfl rfl 6 (by decide) (hts (.fieldLink RX9 26 "SoundLineModel" "endSounds" "[J") (by decide +kernel)) (fun _ h9 => h9) rfl dX9_ending_69 ?_
                  refine lv_aload_n hx hb dX9_ending_72 rfl (lv_at hl 0 rfl) ?_
                  refine va_get (D := gw.1) (ci := 9) (v := .int (zi m_endings)) (C := RX9) (T := TX9) (N := 61) hx hb hts iX9_ending_X9 hown hK.1 hP 0 rfl rfl 14 (by decide) (hts (.fieldLink RX9 183 "SoundLineModel" "endings" "I") (by decide +kernel)) (fun _ h9 => h9) rfl dX9_ending_73 ?_
                  refine lv_lload_n hx hb dX9_ending_76 rfl (lv_at hl 1 rfl) ?_
                  obtain ⟨g_77, hm⟩ := gd_e hm
                  obtain ⟨m_endSounds_77, e_m_endSounds_77, hm⟩ := vl_e hm
                  refine z_last hx hb hK hP hD hS 1 rfl g_77 (by decide) e_m_endSounds_77 dX9_ending_77 (fun H locs hP hD hS => ?_)
                  have hP : va_P gw.1 vwCl [(zOX9 h 0 m_words m_endings m_slip m_guess m_base m_n m_fixedMany m_acts m_kept m_isRead m_isMade m_parts m_total m_found m_from0 m_kind0 m_choices), (zB gw (h 1006) 8 m_endSounds_77), (zA gw (h 1010) 8 m_endSign), (zA gw (h 1011) 8 m_endClass), (zA gw (h 1012) 8 m_endPrice)] H := hP
                  have hD : va_D A [(zOX9 h 0 m_words m_endings m_slip m_guess m_base m_n m_fixedMany m_acts m_kept m_isRead m_isMade m_parts m_total m_found m_from0 m_kind0 m_choices), (zB gw (h 1006) 8 m_endSounds_77), (zA gw (h 1010) 8 m_endSign), (zA gw (h 1011) 8 m_endClass), (zA gw (h 1012) 8 m_endPrice)] := hD
                  refine lv_aload_n hx hb dX9_ending_78 rfl (lv_at hl 0 rfl) ?_
                  refine va_get (D := gw.1) (ci := 9) (v := .ref (h 1010)) (C := RX9) (T := TX9) (N := 61) hx hb hts iX9_ending_X9 hown hK.1 hP 0 rfl rfl 10 (by decide) (hts (.fieldLink RX9 38 "SoundLineModel" "endSign" "[I") (by decide +kernel)) (fun _ h9 => h9) rfl dX9_ending_79 ?_
                  refine lv_aload_n hx hb dX9_ending_82 rfl (lv_at hl 0 rfl) ?_
                  refine va_get (D := gw.1) (ci := 9) (v := .int (zi m_endings)) (C := RX9) (T := TX9) (N := 61) hx hb hts iX9_ending_X9 hown hK.1 hP 0 rfl rfl 14 (by decide) (hts (.fieldLink RX9 183 "SoundLineModel" "endings" "I") (by decide +kernel)) (fun _ h9 => h9) rfl dX9_ending_83 ?_
                  refine lv_iload_n hx hb dX9_ending_86 rfl (lv_at hl 2 rfl) ?_
                  obtain ⟨g_87, hm⟩ := gd_e hm
                  obtain ⟨m_endSign_87, e_m_endSign_87, hm⟩ := vl_e hm
                  refine z_iast hx hb hK hP hD hS 2 rfl g_87 (by decide) e_m_endSign_87 dX9_ending_87 (fun H locs hP hD hS => ?_)
                  have hP : va_P gw.1 vwCl [(zOX9 h 0 m_words m_endings m_slip m_guess m_base m_n m_fixedMany m_acts m_kept m_isRead m_isMade m_parts m_total m_found m_from0 m_kind0 m_choices), (zB gw (h 1006) 8 m_endSounds_77), (zA gw (h 1010) 8 m_endSign_87), (zA gw (h 1011) 8 m_endClass), (zA gw (h 1012) 8 m_endPrice)] H := hP
                  have hD : va_D A [(zOX9 h 0 m_words m_endings m_slip m_guess m_base m_n m_fixedMany m_acts m_kept m_isRead m_isMade m_parts m_total m_found m_from0 m_kind0 m_choices), (zB gw (h 1006) 8 m_endSounds_77), (zA gw (h 1010) 8 m_endSign_87), (zA gw (h 1011) 8 m_endClass), (zA gw (h 1012) 8 m_endPrice)] := hD
                  refine lv_aload_n hx hb dX9_ending_88 rfl (lv_at hl 0 rfl) ?_
                  refine va_get (D := gw.1) (ci := 9) (v := .ref (h 1011)) (C := RX9) (T := TX9) (N := 61) hx hb hts iX9_ending_X9 hown hK.1 hP 0 rfl rfl 11 (by decide) (hts (.fieldLink RX9 41 "SoundLineModel" "endClass" "[I") (by decide +kernel)) (fun _ h9 => h9) rfl dX9_ending_89 ?_
                  refine lv_aload_n hx hb dX9_ending_92 rfl (lv_at hl 0 rfl) ?_
                  refine va_get (D := gw.1) (ci := 9) (v := .int (zi m_endings)) (C := RX9) (T := TX9) (N := 61) hx hb hts iX9_ending_X9 hown hK.1 hP 0 rfl rfl 14 (by decide) (hts (.fieldLink RX9 183 "SoundLineModel" "endings" "I") (by decide +kernel)) (fun _ h9 => h9) rfl dX9_ending_93 ?_
                  refine lv_iload hx hb dX9_ending_96 (lv_at hl 3 rfl) ?_
                  obtain ⟨g_98, hm⟩ := gd_e hm
                  obtain ⟨m_endClass_98, e_m_endClass_98, hm⟩ := vl_e hm
                  refine z_iast hx hb hK hP hD hS 3 rfl g_98 (by decide) e_m_endClass_98 dX9_ending_98 (fun H locs hP hD hS => ?_)
                  have hP : va_P gw.1 vwCl [(zOX9 h 0 m_words m_endings m_slip m_guess m_base m_n m_fixedMany m_acts m_kept m_isRead m_isMade m_parts m_total m_found m_from0 m_kind0 m_choices), (zB gw (h 1006) 8 m_endSounds_77), (zA gw (h 1010) 8 m_endSign_87), (zA gw (h 1011) 8 m_endClass_98), (zA gw (h 1012) 8 m_endPrice)] H := hP
                  have hD : va_D A [(zOX9 h 0 m_words m_endings m_slip m_guess m_base m_n m_fixedMany m_acts m_kept m_isRead m_isMade m_parts m_total m_found m_from0 m_kind0 m_choices), (zB gw (h 1006) 8 m_endSounds_77), (zA gw (h 1010) 8 m_endSign_87), (zA gw (h 1011) 8 m_endClass_98), (zA gw (h 1012) 8 m_endPrice)] := hD
                  refine lv_aload_n hx hb dX9_ending_99 rfl (lv_at hl 0 rfl) ?_
                  refine va_get (D := gw.1) (ci := 9) (v := .ref (h 1012)) (C := RX9) (T := TX9) (N := 61) hx hb hts iX9_ending_X9 hown hK.1 hP 0 rfl rfl 12 (by decide) (hts (.fieldLink RX9 44 "SoundLineModel" "endPrice" "[I") (by decide +kernel)) (fun _ h9 => h9) rfl dX9_ending_100 ?_
                  refine lv_aload_n hx hb dX9_ending_103 rfl (lv_at hl 0 rfl) ?_
                  refine va_get (D := gw.1) (ci := 9) (v := .int (zi m_endings)) (C := RX9) (T := TX9) (N := 61) hx hb hts iX9_ending_X9 hown hK.1 hP 0 rfl rfl 14 (by decide) (hts (.fieldLink RX9 183 "SoundLineModel" "endings" "I") (by decide +kernel)) (fun _ h9 => h9) rfl dX9_ending_104 ?_
                  refine lv_iload hx hb dX9_ending_107 (lv_at hl 4 rfl) ?_
                  obtain ⟨g_109, hm⟩ := gd_e hm
                  obtain ⟨m_endPrice_109, e_m_endPrice_109, hm⟩ := vl_e hm
                  refine z_iast hx hb hK hP hD hS 4 rfl g_109 (by decide) e_m_endPrice_109 dX9_ending_109 (fun H locs hP hD hS => ?_)
                  have hP : va_P gw.1 vwCl [(zOX9 h 0 m_words m_endings m_slip m_guess m_base m_n m_fixedMany m_acts m_kept m_isRead m_isMade m_parts m_total m_found m_from0 m_kind0 m_choices), (zB gw (h 1006) 8 m_endSounds_77), (zA gw (h 1010) 8 m_endSign_87), (zA gw (h 1011) 8 m_endClass_98), (zA gw (h 1012) 8 m_endPrice_109)] H := hP
                  have hD : va_D A [(zOX9 h 0 m_words m_endings m_slip m_guess m_base m_n m_fixedMany m_acts m_kept m_isRead m_isMade m_parts m_total m_found m_from0 m_kind0 m_choices), (zB gw (h 1006) 8 m_endSounds_77), (zA gw (h 1010) 8 m_endSign_87), (zA gw (h 1011) 8 m_endClass_98), (zA gw (h 1012) 8 m_endPrice_109)] := hD
                  refine lv_aload_n hx hb dX9_ending_110 rfl (lv_at hl 0 rfl) ?_
                  refine lv_dup hx hb dX9_ending_111 rfl ?_
                  refine va_get (D := gw.1) (ci := 9) (v := .int (zi m_endings)) (C := RX9) (T := TX9) (N := 61) hx hb hts iX9_ending_X9 hown hK.1 hP 0 rfl rfl 14 (by decide) (hts (.fieldLink RX9 183 "SoundLineModel" "endings" "I") (by decide +kernel)) (fun _ h9 => h9) rfl dX9_ending_112 ?_
                  refine lv_iconst (v := zi 1) hx hb dX9_ending_115 rfl ?_
                  refine z_iadd hx hb dX9_ending_116 ?_
                  obtain ⟨m_endings_117, e_m_endings_117, hm⟩ := vl_e hm
                  refine z_top e_m_endings_117 ?_
                  refine va_put (D := gw.1) (ci := 9) (v := .int (zi m_endings_117)) (ty := .int) (C := RX9) (T := TX9) (N := 61) hx hb hts iX9_ending_X9 tyX9 tyX9_ok nmX9 hown hK.1 hP hD hS 0 rfl rfl 14 (by decide) (hts (.fieldLink RX9 183 "SoundLineModel" "endings" "I") (by decide +kernel)) (fun _ h9 => h9) rfl (by decide +kernel) rfl rfl (Nat.le_of_ble_eq_true rfl) dX9_ending_117 (fun H locs hP hD hS => ?_)
                  have hP : va_P gw.1 vwCl [(zOX9 h 0 m_words m_endings_117 m_slip m_guess m_base m_n m_fixedMany m_acts m_kept m_isRead m_isMade m_parts m_total m_found m_from0 m_kind0 m_choices), (zB gw (h 1006) 8 m_endSounds_77), (zA gw (h 1010) 8 m_endSign_87), (zA gw (h 1011) 8 m_endClass_98), (zA gw (h 1012) 8 m_endPrice_109)] H := hP
                  have hD : va_D A [(zOX9 h 0 m_words m_endings_117 m_slip m_guess m_base m_n m_fixedMany m_acts m_kept m_isRead m_isMade m_parts m_total m_found m_from0 m_kind0 m_choices), (zB gw (h 1006) 8 m_endSounds_77), (zA gw (h 1010) 8 m_endSign_87), (zA gw (h 1011) 8 m_endClass_98), (zA gw (h 1012) 8 m_endPrice_109)] := hD
                  refine lv_aload_n hx hb dX9_ending_120 rfl (lv_at hl 0 rfl) ?_
                  obtain ⟨u_121, hu_121, hm⟩ := bd_e hm
                  obtain ⟨m_isRead_121, m_isMade_121⟩ := u_121
                  refine z_callV (As := []) (rest := []) (wr := [(zB gw (h 1006) 8 m_endSounds_77), (zA gw (h 1010) 8 m_endSign_87), (zA gw (h 1011) 8 m_endClass_98), (zA gw (h 1012) 8 m_endPrice_109)]) (ws' := [(zOX9 h 0 m_words m_endings_117 m_slip m_guess m_base m_n m_fixedMany m_acts m_kept m_isRead_121 m_isMade_121 m_parts m_total m_found m_from0 m_kind0 m_choices), (zB gw (h 1006) 8 m_endSounds_77), (zA gw (h 1010) 8 m_endSign_87), (zA gw (h 1011) 8 m_endClass_98), (zA gw (h 1012) 8 m_endPrice_109)]) ⟨hx, hb, hml, hown, hts⟩ (c_X9_changed l gw h 0 m_words m_endings_117 m_slip m_guess m_base m_n m_fixedMany m_acts m_kept m_parts m_total m_found m_from0 m_kind0 m_choices m_isRead m_isMade _ hu_121 H.size) (cwV 0 hts gX9_ending_X9_changed rfl rfl rfl (by decide +kernel) ⟨Nat.le_of_ble_eq_true rfl, Nat.le_of_ble_eq_true rfl⟩) hK hP hD hS hA [0] [1, 2, 3, 4] [4, 0, 1, 2, 3] (by decide) rfl rfl (by decide) (by decide) rfl (by decide) 0 9 rfl rfl rfl rfl hl.1 (Nat.le_of_ble_eq_true rfl) dX9_ending_121 ⟨Nat.zero_le _, Nat.zero_le _⟩ rfl (fun H locs hP hD hS => ?_)
                  have hP : va_P gw.1 vwCl [(zOX9 h 0 m_words m_endings_117 m_slip m_guess m_base m_n m_fixedMany m_acts m_kept m_isRead_121 m_isMade_121 m_parts m_total m_found m_from0 m_kind0 m_choices), (zB gw (h 1006) 8 m_endSounds_77), (zA gw (h 1010) 8 m_endSign_87), (zA gw (h 1011) 8 m_endClass_98), (zA gw (h 1012) 8 m_endPrice_109)] H := hP
                  have hD : va_D A [(zOX9 h 0 m_words m_endings_117 m_slip m_guess m_base m_n m_fixedMany m_acts m_kept m_isRead_121 m_isMade_121 m_parts m_total m_found m_from0 m_kind0 m_choices), (zB gw (h 1006) 8 m_endSounds_77), (zA gw (h 1010) 8 m_endSign_87), (zA gw (h 1011) 8 m_endClass_98), (zA gw (h 1012) 8 m_endPrice_109)] := hD
                  refine W.eq (g2 := F0 m 124 ls []) rfl ?_
                  refine lv_aload_n hx hb dX9_ending_124 rfl (lv_at hl 0 rfl) ?_
                  refine va_get (D := gw.1) (ci := 9) (v := .int (zi m_endings_117)) (C := RX9) (T := TX9) (N := 61) hx hb hts iX9_ending_X9 hown hK.1 hP 0 rfl rfl 14 (by decide) (hts (.fieldLink RX9 183 "SoundLineModel" "endings" "I") (by decide +kernel)) (fun _ h9 => h9) rfl dX9_ending_125 ?_
                  refine lv_iconst (v := zi 1) hx hb dX9_ending_128 rfl ?_
                  refine z_isub hx hb dX9_ending_129 ?_
                  cases hm
                  exact z_iret hx hb hr hlk hP hD hS dX9_ending_130
                · have hm := if_p hm c_63
                  refine lv_iconst (v := zi (-1)) hx hb dX9_ending_66 rfl ?_
                  cases hm
                  exact z_iret hx hb hr hlk hP hD hS dX9_ending_67
              · have hm := if_n hm c_49
                exact w_X9_ending_52 F h m_words m_slip m_guess m_base m_n m_fixedMany m_acts m_kept m_parts m_total m_found m_from0 m_kind0 m_choices 0 m_endSounds m_endSign m_endClass m_endPrice m_endings m_isRead m_isMade _ hm _ _ _ hP hD hS (lv_sub hl [0] rfl)
theorem c_X9_ending (l : Launch) (gw : zG) (h : Nat → Nat) (m_words : Int) (m_slip : Int) (m_guess : Int) (m_base : Int) (m_n : Int) (m_fixedMany : Int) (m_acts : Int) (m_kept : Int) (m_parts : Int) (m_total : Int) (m_found : Int) (m_from0 : Int) (m_kind0 : Int) (m_choices : Int) (x1 : Int) (x3 : Int) (x4 : Int) (x5 : Int) (m_code : Int) (m_endSounds : Nat → Int) (m_endSign : Nat → Int) (m_endClass : Nat → Int) (m_endPrice : Nat → Int) (m_endings : Int) (m_isRead : Int) (m_isMade : Int) (u : Int × Int × (Nat → Int) × (Nat → Int) × (Nat → Int) × (Nat → Int) × Int × Int × Int) (hm : m_X9_ending x1 x3 x4 x5 m_code m_endSounds m_endSign m_endClass m_endPrice m_endings m_isRead m_isMade = some u) (sz : Nat) : Met l yX9_ending wsX9_ending rmX9_ending (va_Pc [.ref (h 9), .long (zl x1), .int (zi x3), .int (zi x4), .int (zi x5)] (zPre gw [(zOX9 h m_code m_words m_endings m_slip m_guess m_base m_n m_fixedMany m_acts m_kept m_isRead m_isMade m_parts m_total m_found m_from0 m_kind0 m_choices), (zB gw (h 1006) 8 m_endSounds), (zA gw (h 1010) 8 m_endSign), (zA gw (h 1011) 8 m_endClass), (zA gw (h 1012) 8 m_endPrice)] sz)) (zQ gw (some (.int (zi u.1))) [(zOX9 h (u.2.1) m_words (u.2.2.2.2.2.2.1) m_slip m_guess m_base m_n m_fixedMany m_acts m_kept (u.2.2.2.2.2.2.2.1) (u.2.2.2.2.2.2.2.2) m_parts m_total m_found m_from0 m_kind0 m_choices), (zB gw (h 1006) 8 (u.2.2.1)), (zA gw (h 1010) 8 (u.2.2.2.1)), (zA gw (h 1011) 8 (u.2.2.2.2.1)), (zA gw (h 1012) 8 (u.2.2.2.2.2.1))] (va_A [(zOX9 h m_code m_words m_endings m_slip m_guess m_base m_n m_fixedMany m_acts m_kept m_isRead m_isMade m_parts m_total m_found m_from0 m_kind0 m_choices), (zB gw (h 1006) 8 m_endSounds), (zA gw (h 1010) 8 m_endSign), (zA gw (h 1011) 8 m_endClass), (zA gw (h 1012) 8 m_endPrice)] sz)) 0 0 (va_A [(zOX9 h m_code m_words m_endings m_slip m_guess m_base m_n m_fixedMany m_acts m_kept m_isRead m_isMade m_parts m_total m_found m_from0 m_kind0 m_choices), (zB gw (h 1006) 8 m_endSounds), (zA gw (h 1010) 8 m_endSign), (zA gw (h 1011) 8 m_endClass), (zA gw (h 1012) 8 m_endPrice)] sz) :=
  z_met (by decide) rfl (Nat.le_of_ble_eq_true rfl) rfl (fun p e s m args below meth c A F hsz ls hl hP hD => w_X9_ending F h m_words m_slip m_guess m_base m_n m_fixedMany m_acts m_kept m_parts m_total m_found m_from0 m_kind0 m_choices x1 x3 x4 x5 m_code m_endSounds m_endSign m_endClass m_endPrice m_endings m_isRead m_isMade u hm s.heap [] ls hP hD va_S.rf hl)
abbrev rmX9_price : Room := { frames := 1, cells := 0, slots := 0, locals := 20 }
theorem iX9_price_X9 : ∀ w ∈ wsX90, w ∈ wsX9_price := by decide +kernel
def m_X9_price_25 (m_code : Int) (m_slip : Int) (m_guess : Int) (m_base : Int) (m_isRead : Int) (m_isMade : Int) : Option (Int × Int × Int × Int × Int × Int × Int) :=
  (m_X9_fail m_code).bind fun (r_26, m_code_26) =>
  some (r_26, m_code_26, m_slip, m_guess, m_base, m_isRead, m_isMade)
set_option maxHeartbeats 4000000 in
set_option maxRecDepth 100000 in
theorem w_X9_price_25 (F : zF p s m args meth c A gw cX9_price 4 (some .int) wsX9_price yX9_price) (h : Nat → Nat) (m_words : Int) (m_endings : Int) (m_n : Int) (m_fixedMany : Int) (m_acts : Int) (m_kept : Int) (m_parts : Int) (m_total : Int) (m_found : Int) (m_from0 : Int) (m_kind0 : Int) (m_choices : Int) (m_code : Int) (m_slip : Int) (m_guess : Int) (m_base : Int) (m_isRead : Int) (m_isMade : Int) (u : Int × Int × Int × Int × Int × Int × Int) (hm : m_X9_price_25 m_code m_slip m_guess m_base m_isRead m_isMade = some u) (H : Heap) (locs : List Loc) (ls : Array Slot) (hP : va_P gw.1 vwCl [(zOX9 h m_code m_words m_endings m_slip m_guess m_base m_n m_fixedMany m_acts m_kept m_isRead m_isMade m_parts m_total m_found m_from0 m_kind0 m_choices)] H) (hD : va_D A [(zOX9 h m_code m_words m_endings m_slip m_guess m_base m_n m_fixedMany m_acts m_kept m_isRead m_isMade m_parts m_total m_found m_from0 m_kind0 m_choices)]) (hS : va_S A s.heap H locs) (hl : lv_has ls 4 [(0, .ref (h 9))]) : W p l e rmX9_price s m args below meth c H locs 0 0 (MQ below (zQ gw (some (.int (zi u.1))) [(zOX9 h (u.2.1) m_words m_endings (u.2.2.1) (u.2.2.2.1) (u.2.2.2.2.1) m_n m_fixedMany m_acts m_kept (u.2.2.2.2.2.1) (u.2.2.2.2.2.2) m_parts m_total m_found m_from0 m_kind0 m_choices)] A) args s 0 0 A) (F0 m 25 ls []) := by
  obtain ⟨hx, hb, hml, hr, hown, hts, hlk, hK, hA, hnm⟩ := id F
  have hown : s.vm.findClass RX9 = some m.cls := hown
  unfold m_X9_price_25 at hm
  refine lv_aload_n hx hb dX9_price_25 rfl (lv_at hl 0 rfl) ?_
  obtain ⟨u_26, hu_26, hm⟩ := bd_e hm
  obtain ⟨r_26, m_code_26⟩ := u_26
  refine z_callV (As := []) (rest := []) (wr := []) (ws' := [(zOX9 h m_code_26 m_words m_endings m_slip m_guess m_base m_n m_fixedMany m_acts m_kept m_isRead m_isMade m_parts m_total m_found m_from0 m_kind0 m_choices)]) ⟨hx, hb, hml, hown, hts⟩ (c_X9_fail l gw h m_words m_endings m_slip m_guess m_base m_n m_fixedMany m_acts m_kept m_isRead m_isMade m_parts m_total m_found m_from0 m_kind0 m_choices m_code _ hu_26 H.size) (cwV 0 hts gX9_price_X9_fail rfl rfl rfl (by decide +kernel) ⟨Nat.le_of_ble_eq_true rfl, Nat.le_of_ble_eq_true rfl⟩) hK hP hD hS hA [0] [] [0] (by decide) rfl rfl (by decide) (by decide) rfl (by decide) 0 9 rfl rfl rfl rfl hl.1 (Nat.le_of_ble_eq_true rfl) dX9_price_26 ⟨Nat.zero_le _, Nat.zero_le _⟩ rfl (fun H locs hP hD hS => ?_)
  have hP : va_P gw.1 vwCl [(zOX9 h m_code_26 m_words m_endings m_slip m_guess m_base m_n m_fixedMany m_acts m_kept m_isRead m_isMade m_parts m_total m_found m_from0 m_kind0 m_choices)] H := hP
  have hD : va_D A [(zOX9 h m_code_26 m_words m_endings m_slip m_guess m_base m_n m_fixedMany m_acts m_kept m_isRead m_isMade m_parts m_total m_found m_from0 m_kind0 m_choices)] := hD
  refine W.eq (g2 := F0 m 29 ls [.int (zi r_26)]) rfl ?_
  cases hm
  exact z_iret hx hb hr hlk hP hD hS dX9_price_29
def m_X9_price_88 (x3 : Int) (m_code : Int) (m_slip : Int) (m_guess : Int) (m_base : Int) (m_isRead : Int) (m_isMade : Int) : Option (Int × Int × Int × Int × Int × Int × Int) :=
  (m_X9_changed m_isRead m_isMade).bind fun (m_isRead_89, m_isMade_89) =>
  some (x3, m_code, m_slip, m_guess, m_base, m_isRead_89, m_isMade_89)
set_option maxHeartbeats 4000000 in
set_option maxRecDepth 100000 in
theorem w_X9_price_88 (F : zF p s m args meth c A gw cX9_price 4 (some .int) wsX9_price yX9_price) (h : Nat → Nat) (m_words : Int) (m_endings : Int) (m_n : Int) (m_fixedMany : Int) (m_acts : Int) (m_kept : Int) (m_parts : Int) (m_total : Int) (m_found : Int) (m_from0 : Int) (m_kind0 : Int) (m_choices : Int) (x3 : Int) (m_code : Int) (m_slip : Int) (m_guess : Int) (m_base : Int) (m_isRead : Int) (m_isMade : Int) (u : Int × Int × Int × Int × Int × Int × Int) (hm : m_X9_price_88 x3 m_code m_slip m_guess m_base m_isRead m_isMade = some u) (H : Heap) (locs : List Loc) (ls : Array Slot) (hP : va_P gw.1 vwCl [(zOX9 h m_code m_words m_endings m_slip m_guess m_base m_n m_fixedMany m_acts m_kept m_isRead m_isMade m_parts m_total m_found m_from0 m_kind0 m_choices)] H) (hD : va_D A [(zOX9 h m_code m_words m_endings m_slip m_guess m_base m_n m_fixedMany m_acts m_kept m_isRead m_isMade m_parts m_total m_found m_from0 m_kind0 m_choices)]) (hS : va_S A s.heap H locs) (hl : lv_has ls 4 [(0, .ref (h 9)), (3, .int (zi x3))]) : W p l e rmX9_price s m args below meth c H locs 0 0 (MQ below (zQ gw (some (.int (zi u.1))) [(zOX9 h (u.2.1) m_words m_endings (u.2.2.1) (u.2.2.2.1) (u.2.2.2.2.1) m_n m_fixedMany m_acts m_kept (u.2.2.2.2.2.1) (u.2.2.2.2.2.2) m_parts m_total m_found m_from0 m_kind0 m_choices)] A) args s 0 0 A) (F0 m 88 ls []) := by
  obtain ⟨hx, hb, hml, hr, hown, hts, hlk, hK, hA, hnm⟩ := id F
  have hown : s.vm.findClass RX9 = some m.cls := hown
  unfold m_X9_price_88 at hm
  refine lv_aload_n hx hb dX9_price_88 rfl (lv_at hl 0 rfl) ?_
  obtain ⟨u_89, hu_89, hm⟩ := bd_e hm
  obtain ⟨m_isRead_89, m_isMade_89⟩ := u_89
  refine z_callV (As := []) (rest := []) (wr := []) (ws' := [(zOX9 h m_code m_words m_endings m_slip m_guess m_base m_n m_fixedMany m_acts m_kept m_isRead_89 m_isMade_89 m_parts m_total m_found m_from0 m_kind0 m_choices)]) ⟨hx, hb, hml, hown, hts⟩ (c_X9_changed l gw h m_code m_words m_endings m_slip m_guess m_base m_n m_fixedMany m_acts m_kept m_parts m_total m_found m_from0 m_kind0 m_choices m_isRead m_isMade _ hu_89 H.size) (cwV 0 hts gX9_price_X9_changed rfl rfl rfl (by decide +kernel) ⟨Nat.le_of_ble_eq_true rfl, Nat.le_of_ble_eq_true rfl⟩) hK hP hD hS hA [0] [] [0] (by decide) rfl rfl (by decide) (by decide) rfl (by decide) 0 9 rfl rfl rfl rfl hl.1 (Nat.le_of_ble_eq_true rfl) dX9_price_89 ⟨Nat.zero_le _, Nat.zero_le _⟩ rfl (fun H locs hP hD hS => ?_)
  have hP : va_P gw.1 vwCl [(zOX9 h m_code m_words m_endings m_slip m_guess m_base m_n m_fixedMany m_acts m_kept m_isRead_89 m_isMade_89 m_parts m_total m_found m_from0 m_kind0 m_choices)] H := hP
  have hD : va_D A [(zOX9 h m_code m_words m_endings m_slip m_guess m_base m_n m_fixedMany m_acts m_kept m_isRead_89 m_isMade_89 m_parts m_total m_found m_from0 m_kind0 m_choices)] := hD
  refine W.eq (g2 := F0 m 92 ls []) rfl ?_
  refine lv_iload_n hx hb dX9_price_92 rfl (lv_at hl 1 rfl) ?_
  cases hm
  exact z_iret hx hb hr hlk hP hD hS dX9_price_93
def m_X9_price_57 (x1 : Int) (x2 : Int) (t0 : Int) (m_code : Int) (m_slip : Int) (m_guess : Int) (m_base : Int) (m_isRead : Int) (m_isMade : Int) : Option (Int × Int × Int × Int × Int × Int × Int) :=
  gd (inI x1) <|
  if x1 = 0 then
    m_X9_price_88 t0 m_code x2 m_guess m_base m_isRead m_isMade
  else
    if x1 = 1 then
      m_X9_price_88 t0 m_code m_slip x2 m_base m_isRead m_isMade
    else
      m_X9_price_88 t0 m_code m_slip m_guess x2 m_isRead m_isMade
set_option maxHeartbeats 4000000 in
set_option maxRecDepth 100000 in
theorem w_X9_price_57 (F : zF p s m args meth c A gw cX9_price 4 (some .int) wsX9_price yX9_price) (h : Nat → Nat) (m_words : Int) (m_endings : Int) (m_n : Int) (m_fixedMany : Int) (m_acts : Int) (m_kept : Int) (m_parts : Int) (m_total : Int) (m_found : Int) (m_from0 : Int) (m_kind0 : Int) (m_choices : Int) (x1 : Int) (x2 : Int) (t0 : Int) (m_code : Int) (m_slip : Int) (m_guess : Int) (m_base : Int) (m_isRead : Int) (m_isMade : Int) (u : Int × Int × Int × Int × Int × Int × Int) (hm : m_X9_price_57 x1 x2 t0 m_code m_slip m_guess m_base m_isRead m_isMade = some u) (H : Heap) (locs : List Loc) (ls : Array Slot) (hP : va_P gw.1 vwCl [(zOX9 h m_code m_words m_endings m_slip m_guess m_base m_n m_fixedMany m_acts m_kept m_isRead m_isMade m_parts m_total m_found m_from0 m_kind0 m_choices)] H) (hD : va_D A [(zOX9 h m_code m_words m_endings m_slip m_guess m_base m_n m_fixedMany m_acts m_kept m_isRead m_isMade m_parts m_total m_found m_from0 m_kind0 m_choices)]) (hS : va_S A s.heap H locs) (hl : lv_has ls 4 [(0, .ref (h 9)), (1, .int (zi x1)), (2, .int (zi x2))]) : W p l e rmX9_price s m args below meth c H locs 0 0 (MQ below (zQ gw (some (.int (zi u.1))) [(zOX9 h (u.2.1) m_words m_endings (u.2.2.1) (u.2.2.2.1) (u.2.2.2.2.1) m_n m_fixedMany m_acts m_kept (u.2.2.2.2.2.1) (u.2.2.2.2.2.2) m_parts m_total m_found m_from0 m_kind0 m_choices)] A) args s 0 0 A) (F0 m 57 ls [.int (zi t0)]) := by
  obtain ⟨hx, hb, hml, hr, hown, hts, hlk, hK, hA, hnm⟩ := id F
  have hown : s.vm.findClass RX9 = some m.cls := hown
  unfold m_X9_price_57 at hm
  refine lv_istore_n (lv' := [(3, .int (zi t0)), (0, .ref (h 9)), (1, .int (zi x1)), (2, .int (zi x2))]) hx hb dX9_price_57 rfl hl (by decide) rfl (fun ls hl => ?_)
  refine lv_iload_n hx hb dX9_price_58 rfl (lv_at hl 2 rfl) ?_
  obtain ⟨g_59, hm⟩ := gd_e hm
  refine z_if_ne (tgt := 70) hx hb g_59 dX9_price_59 (by decide) (fun c_59 => ?_) (fun c_59 => ?_)
  · have hm := if_n hm c_59
    refine lv_iload_n hx hb dX9_price_70 rfl (lv_at hl 2 rfl) ?_
    refine lv_iconst (v := zi 1) hx hb dX9_price_71 rfl ?_
    refine z_icmp_ne (tgt := 83) hx hb g_59 (by decide) dX9_price_72 (by decide) (fun c_72 => ?_) (fun c_72 => ?_)
    · have hm := if_n hm c_72
      refine lv_aload_n hx hb dX9_price_83 rfl (lv_at hl 1 rfl) ?_
      refine lv_iload_n hx hb dX9_price_84 rfl (lv_at hl 3 rfl) ?_
      refine va_put (D := gw.1) (ci := 9) (v := .int (zi x2)) (ty := .int) (C := RX9) (T := TX9) (N := 61) hx hb hts iX9_price_X9 tyX9 tyX9_ok nmX9 hown hK.1 hP hD hS 0 rfl rfl 17 (by decide) (hts (.fieldLink RX9 54 "SoundLineModel" "base" "I") (by decide +kernel)) (fun _ h9 => h9) rfl (by decide +kernel) rfl rfl (Nat.le_of_ble_eq_true rfl) dX9_price_85 (fun H locs hP hD hS => ?_)
      have hP : va_P gw.1 vwCl [(zOX9 h m_code m_words m_endings m_slip m_guess x2 m_n m_fixedMany m_acts m_kept m_isRead m_isMade m_parts m_total m_found m_from0 m_kind0 m_choices)] H := hP
      have hD : va_D A [(zOX9 h m_code m_words m_endings m_slip m_guess x2 m_n m_fixedMany m_acts m_kept m_isRead m_isMade m_parts m_total m_found m_from0 m_kind0 m_choices)] := hD
      exact w_X9_price_88 F h m_words m_endings m_n m_fixedMany m_acts m_kept m_parts m_total m_found m_from0 m_kind0 m_choices t0 m_code m_slip m_guess x2 m_isRead m_isMade _ hm _ _ _ hP hD hS (lv_sub hl [1, 0] rfl)
    · have hm := if_p hm c_72
      refine lv_aload_n hx hb dX9_price_75 rfl (lv_at hl 1 rfl) ?_
      refine lv_iload_n hx hb dX9_price_76 rfl (lv_at hl 3 rfl) ?_
      refine va_put (D := gw.1) (ci := 9) (v := .int (zi x2)) (ty := .int) (C := RX9) (T := TX9) (N := 61) hx hb hts iX9_price_X9 tyX9 tyX9_ok nmX9 hown hK.1 hP hD hS 0 rfl rfl 16 (by decide) (hts (.fieldLink RX9 51 "SoundLineModel" "guess" "I") (by decide +kernel)) (fun _ h9 => h9) rfl (by decide +kernel) rfl rfl (Nat.le_of_ble_eq_true rfl) dX9_price_77 (fun H locs hP hD hS => ?_)
      have hP : va_P gw.1 vwCl [(zOX9 h m_code m_words m_endings m_slip x2 m_base m_n m_fixedMany m_acts m_kept m_isRead m_isMade m_parts m_total m_found m_from0 m_kind0 m_choices)] H := hP
      have hD : va_D A [(zOX9 h m_code m_words m_endings m_slip x2 m_base m_n m_fixedMany m_acts m_kept m_isRead m_isMade m_parts m_total m_found m_from0 m_kind0 m_choices)] := hD
      refine lv_goto (tgt := 88) hx hb dX9_price_80 (by decide) ?_
      exact w_X9_price_88 F h m_words m_endings m_n m_fixedMany m_acts m_kept m_parts m_total m_found m_from0 m_kind0 m_choices t0 m_code m_slip x2 m_base m_isRead m_isMade _ hm _ _ _ hP hD hS (lv_sub hl [1, 0] rfl)
  · have hm := if_p hm c_59
    refine lv_aload_n hx hb dX9_price_62 rfl (lv_at hl 1 rfl) ?_
    refine lv_iload_n hx hb dX9_price_63 rfl (lv_at hl 3 rfl) ?_
    refine va_put (D := gw.1) (ci := 9) (v := .int (zi x2)) (ty := .int) (C := RX9) (T := TX9) (N := 61) hx hb hts iX9_price_X9 tyX9 tyX9_ok nmX9 hown hK.1 hP hD hS 0 rfl rfl 15 (by decide) (hts (.fieldLink RX9 47 "SoundLineModel" "slip" "I") (by decide +kernel)) (fun _ h9 => h9) rfl (by decide +kernel) rfl rfl (Nat.le_of_ble_eq_true rfl) dX9_price_64 (fun H locs hP hD hS => ?_)
    have hP : va_P gw.1 vwCl [(zOX9 h m_code m_words m_endings x2 m_guess m_base m_n m_fixedMany m_acts m_kept m_isRead m_isMade m_parts m_total m_found m_from0 m_kind0 m_choices)] H := hP
    have hD : va_D A [(zOX9 h m_code m_words m_endings x2 m_guess m_base m_n m_fixedMany m_acts m_kept m_isRead m_isMade m_parts m_total m_found m_from0 m_kind0 m_choices)] := hD
    refine lv_goto (tgt := 88) hx hb dX9_price_67 (by decide) ?_
    exact w_X9_price_88 F h m_words m_endings m_n m_fixedMany m_acts m_kept m_parts m_total m_found m_from0 m_kind0 m_choices t0 m_code x2 m_guess m_base m_isRead m_isMade _ hm _ _ _ hP hD hS (lv_sub hl [1, 0] rfl)
def m_X9_price (x1 : Int) (x2 : Int) (m_code : Int) (m_slip : Int) (m_guess : Int) (m_base : Int) (m_isRead : Int) (m_isMade : Int) : Option (Int × Int × Int × Int × Int × Int × Int) :=
  gd (inI x1) <|
  if x1 < 0 then
    m_X9_price_25 0 m_slip m_guess m_base m_isRead m_isMade
  else
    if 2 < x1 then
      m_X9_price_25 0 m_slip m_guess m_base m_isRead m_isMade
    else
      gd (inI x2) <|
      if x2 < 0 then
        m_X9_price_25 0 m_slip m_guess m_base m_isRead m_isMade
      else
        if x2 ≤ 200 then
          if x1 = 0 then
            m_X9_price_57 x1 x2 m_slip 0 m_slip m_guess m_base m_isRead m_isMade
          else
            if x1 = 1 then
              m_X9_price_57 x1 x2 m_guess 0 m_slip m_guess m_base m_isRead m_isMade
            else
              m_X9_price_57 x1 x2 m_base 0 m_slip m_guess m_base m_isRead m_isMade
        else
          m_X9_price_25 0 m_slip m_guess m_base m_isRead m_isMade
set_option maxHeartbeats 4000000 in
set_option maxRecDepth 100000 in
theorem w_X9_price (F : zF p s m args meth c A gw cX9_price 4 (some .int) wsX9_price yX9_price) (h : Nat → Nat) (m_words : Int) (m_endings : Int) (m_n : Int) (m_fixedMany : Int) (m_acts : Int) (m_kept : Int) (m_parts : Int) (m_total : Int) (m_found : Int) (m_from0 : Int) (m_kind0 : Int) (m_choices : Int) (x1 : Int) (x2 : Int) (m_code : Int) (m_slip : Int) (m_guess : Int) (m_base : Int) (m_isRead : Int) (m_isMade : Int) (u : Int × Int × Int × Int × Int × Int × Int) (hm : m_X9_price x1 x2 m_code m_slip m_guess m_base m_isRead m_isMade = some u) (H : Heap) (locs : List Loc) (ls : Array Slot) (hP : va_P gw.1 vwCl [(zOX9 h m_code m_words m_endings m_slip m_guess m_base m_n m_fixedMany m_acts m_kept m_isRead m_isMade m_parts m_total m_found m_from0 m_kind0 m_choices)] H) (hD : va_D A [(zOX9 h m_code m_words m_endings m_slip m_guess m_base m_n m_fixedMany m_acts m_kept m_isRead m_isMade m_parts m_total m_found m_from0 m_kind0 m_choices)]) (hS : va_S A s.heap H locs) (hl : lv_has ls 4 [(0, .ref (h 9)), (1, .int (zi x1)), (2, .int (zi x2))]) : W p l e rmX9_price s m args below meth c H locs 0 0 (MQ below (zQ gw (some (.int (zi u.1))) [(zOX9 h (u.2.1) m_words m_endings (u.2.2.1) (u.2.2.2.1) (u.2.2.2.2.1) m_n m_fixedMany m_acts m_kept (u.2.2.2.2.2.1) (u.2.2.2.2.2.2) m_parts m_total m_found m_from0 m_kind0 m_choices)] A) args s 0 0 A) (F0 m 0 ls []) := by
  obtain ⟨hx, hb, hml, hr, hown, hts, hlk, hK, hA, hnm⟩ := id F
  have hown : s.vm.findClass RX9 = some m.cls := hown
  unfold m_X9_price at hm
  refine lv_aload_n hx hb dX9_price_0 rfl (lv_at hl 0 rfl) ?_
  refine lv_iconst (v := zi 0) hx hb dX9_price_1 rfl ?_
  refine va_put (D := gw.1) (ci := 9) (v := .int (zi 0)) (ty := .int) (C := RX9) (T := TX9) (N := 61) hx hb hts iX9_price_X9 tyX9 tyX9_ok nmX9 hown hK.1 hP hD hS 0 rfl rfl 0 (by decide) (hts (.fieldLink RX9 151 "SoundLineModel" "code" "I") (by decide +kernel)) (fun _ h9 => h9) rfl (by decide +kernel) rfl rfl (Nat.le_of_ble_eq_true rfl) dX9_price_2 (fun H locs hP hD hS => ?_)
  have hP : va_P gw.1 vwCl [(zOX9 h 0 m_words m_endings m_slip m_guess m_base m_n m_fixedMany m_acts m_kept m_isRead m_isMade m_parts m_total m_found m_from0 m_kind0 m_choices)] H := hP
  have hD : va_D A [(zOX9 h 0 m_words m_endings m_slip m_guess m_base m_n m_fixedMany m_acts m_kept m_isRead m_isMade m_parts m_total m_found m_from0 m_kind0 m_choices)] := hD
  refine lv_iload_n hx hb dX9_price_5 rfl (lv_at hl 1 rfl) ?_
  obtain ⟨g_6, hm⟩ := gd_e hm
  refine z_if_lt (tgt := 25) hx hb g_6 dX9_price_6 (by decide) (fun c_6 => ?_) (fun c_6 => ?_)
  · have hm := if_p hm c_6
    exact w_X9_price_25 F h m_words m_endings m_n m_fixedMany m_acts m_kept m_parts m_total m_found m_from0 m_kind0 m_choices 0 m_slip m_guess m_base m_isRead m_isMade _ hm _ _ _ hP hD hS (lv_sub hl [0] rfl)
  · have hm := if_n hm c_6
    refine lv_iload_n hx hb dX9_price_9 rfl (lv_at hl 1 rfl) ?_
    refine lv_iconst (v := zi 2) hx hb dX9_price_10 rfl ?_
    refine z_icmp_gt (tgt := 25) hx hb g_6 (by decide) dX9_price_11 (by decide) (fun c_11 => ?_) (fun c_11 => ?_)
    · have hm := if_p hm c_11
      exact w_X9_price_25 F h m_words m_endings m_n m_fixedMany m_acts m_kept m_parts m_total m_found m_from0 m_kind0 m_choices 0 m_slip m_guess m_base m_isRead m_isMade _ hm _ _ _ hP hD hS (lv_sub hl [0] rfl)
    · have hm := if_n hm c_11
      refine lv_iload_n hx hb dX9_price_14 rfl (lv_at hl 2 rfl) ?_
      obtain ⟨g_15, hm⟩ := gd_e hm
      refine z_if_lt (tgt := 25) hx hb g_15 dX9_price_15 (by decide) (fun c_15 => ?_) (fun c_15 => ?_)
      · have hm := if_p hm c_15
        exact w_X9_price_25 F h m_words m_endings m_n m_fixedMany m_acts m_kept m_parts m_total m_found m_from0 m_kind0 m_choices 0 m_slip m_guess m_base m_isRead m_isMade _ hm _ _ _ hP hD hS (lv_sub hl [0] rfl)
      · have hm := if_n hm c_15
        refine lv_iload_n hx hb dX9_price_18 rfl (lv_at hl 2 rfl) ?_
        refine lv_sipush (v := zi 200) hx hb dX9_price_19 (by decide) ?_
        refine z_icmp_le (tgt := 30) hx hb g_15 (by decide) dX9_price_22 (by decide) (fun c_22 => ?_) (fun c_22 => ?_)
        · have hm := if_p hm c_22
          refine lv_iload_n hx hb dX9_price_30 rfl (lv_at hl 1 rfl) ?_
          refine z_if_ne (tgt := 41) hx hb g_6 dX9_price_31 (by decide) (fun c_31 => ?_) (fun c_31 => ?_)
          · have hm := if_n hm c_31
            refine lv_iload_n hx hb dX9_price_41 rfl (lv_at hl 1 rfl) ?_
            refine lv_iconst (v := zi 1) hx hb dX9_price_42 rfl ?_
            refine z_icmp_ne (tgt := 53) hx hb g_6 (by decide) dX9_price_43 (by decide) (fun c_43 => ?_) (fun c_43 => ?_)
            · have hm := if_n hm c_43
              refine lv_aload_n hx hb dX9_price_53 rfl (lv_at hl 0 rfl) ?_
              refine va_get (D := gw.1) (ci := 9) (v := .int (zi m_base)) (C := RX9) (T := TX9) (N := 61) hx hb hts iX9_price_X9 hown hK.1 hP 0 rfl rfl 17 (by decide) (hts (.fieldLink RX9 54 "SoundLineModel" "base" "I") (by decide +kernel)) (fun _ h9 => h9) rfl dX9_price_54 ?_
              exact w_X9_price_57 F h m_words m_endings m_n m_fixedMany m_acts m_kept m_parts m_total m_found m_from0 m_kind0 m_choices x1 x2 m_base 0 m_slip m_guess m_base m_isRead m_isMade _ hm _ _ _ hP hD hS hl
            · have hm := if_p hm c_43
              refine lv_aload_n hx hb dX9_price_46 rfl (lv_at hl 0 rfl) ?_
              refine va_get (D := gw.1) (ci := 9) (v := .int (zi m_guess)) (C := RX9) (T := TX9) (N := 61) hx hb hts iX9_price_X9 hown hK.1 hP 0 rfl rfl 16 (by decide) (hts (.fieldLink RX9 51 "SoundLineModel" "guess" "I") (by decide +kernel)) (fun _ h9 => h9) rfl dX9_price_47 ?_
              refine lv_goto (tgt := 57) hx hb dX9_price_50 (by decide) ?_
              exact w_X9_price_57 F h m_words m_endings m_n m_fixedMany m_acts m_kept m_parts m_total m_found m_from0 m_kind0 m_choices x1 x2 m_guess 0 m_slip m_guess m_base m_isRead m_isMade _ hm _ _ _ hP hD hS hl
          · have hm := if_p hm c_31
            refine lv_aload_n hx hb dX9_price_34 rfl (lv_at hl 0 rfl) ?_
            refine va_get (D := gw.1) (ci := 9) (v := .int (zi m_slip)) (C := RX9) (T := TX9) (N := 61) hx hb hts iX9_price_X9 hown hK.1 hP 0 rfl rfl 15 (by decide) (hts (.fieldLink RX9 47 "SoundLineModel" "slip" "I") (by decide +kernel)) (fun _ h9 => h9) rfl dX9_price_35 ?_
            refine lv_goto (tgt := 57) hx hb dX9_price_38 (by decide) ?_
            exact w_X9_price_57 F h m_words m_endings m_n m_fixedMany m_acts m_kept m_parts m_total m_found m_from0 m_kind0 m_choices x1 x2 m_slip 0 m_slip m_guess m_base m_isRead m_isMade _ hm _ _ _ hP hD hS hl
        · have hm := if_n hm c_22
          exact w_X9_price_25 F h m_words m_endings m_n m_fixedMany m_acts m_kept m_parts m_total m_found m_from0 m_kind0 m_choices 0 m_slip m_guess m_base m_isRead m_isMade _ hm _ _ _ hP hD hS (lv_sub hl [0] rfl)
theorem c_X9_price (l : Launch) (gw : zG) (h : Nat → Nat) (m_words : Int) (m_endings : Int) (m_n : Int) (m_fixedMany : Int) (m_acts : Int) (m_kept : Int) (m_parts : Int) (m_total : Int) (m_found : Int) (m_from0 : Int) (m_kind0 : Int) (m_choices : Int) (x1 : Int) (x2 : Int) (m_code : Int) (m_slip : Int) (m_guess : Int) (m_base : Int) (m_isRead : Int) (m_isMade : Int) (u : Int × Int × Int × Int × Int × Int × Int) (hm : m_X9_price x1 x2 m_code m_slip m_guess m_base m_isRead m_isMade = some u) (sz : Nat) : Met l yX9_price wsX9_price rmX9_price (va_Pc [.ref (h 9), .int (zi x1), .int (zi x2)] (zPre gw [(zOX9 h m_code m_words m_endings m_slip m_guess m_base m_n m_fixedMany m_acts m_kept m_isRead m_isMade m_parts m_total m_found m_from0 m_kind0 m_choices)] sz)) (zQ gw (some (.int (zi u.1))) [(zOX9 h (u.2.1) m_words m_endings (u.2.2.1) (u.2.2.2.1) (u.2.2.2.2.1) m_n m_fixedMany m_acts m_kept (u.2.2.2.2.2.1) (u.2.2.2.2.2.2) m_parts m_total m_found m_from0 m_kind0 m_choices)] (va_A [(zOX9 h m_code m_words m_endings m_slip m_guess m_base m_n m_fixedMany m_acts m_kept m_isRead m_isMade m_parts m_total m_found m_from0 m_kind0 m_choices)] sz)) 0 0 (va_A [(zOX9 h m_code m_words m_endings m_slip m_guess m_base m_n m_fixedMany m_acts m_kept m_isRead m_isMade m_parts m_total m_found m_from0 m_kind0 m_choices)] sz) :=
  z_met (by decide) rfl (Nat.le_of_ble_eq_true rfl) rfl (fun p e s m args below meth c A F hsz ls hl hP hD => w_X9_price F h m_words m_endings m_n m_fixedMany m_acts m_kept m_parts m_total m_found m_from0 m_kind0 m_choices x1 x2 m_code m_slip m_guess m_base m_isRead m_isMade u hm s.heap [] ls hP hD va_S.rf hl)
abbrev rmX9_step : Room := { frames := 1, cells := 0, slots := 0, locals := 20 }
theorem iX9_step_X9 : ∀ w ∈ wsX90, w ∈ wsX9_step := by decide +kernel
def m_X9_step_35 (m_code : Int) (m_steps : Nat → Int) (m_isRead : Int) : Option (Int × Int × (Nat → Int) × Int) :=
  (m_X9_fail m_code).bind fun (r_36, m_code_36) =>
  some (r_36, m_code_36, m_steps, m_isRead)
set_option maxHeartbeats 4000000 in
set_option maxRecDepth 100000 in
theorem w_X9_step_35 (F : zF p s m args meth c A gw cX9_step 5 (some .int) wsX9_step yX9_step) (h : Nat → Nat) (m_words : Int) (m_endings : Int) (m_slip : Int) (m_guess : Int) (m_base : Int) (m_n : Int) (m_fixedMany : Int) (m_acts : Int) (m_kept : Int) (m_isMade : Int) (m_parts : Int) (m_total : Int) (m_found : Int) (m_from0 : Int) (m_kind0 : Int) (m_choices : Int) (m_code : Int) (m_steps : Nat → Int) (m_isRead : Int) (u : Int × Int × (Nat → Int) × Int) (hm : m_X9_step_35 m_code m_steps m_isRead = some u) (H : Heap) (locs : List Loc) (ls : Array Slot) (hP : va_P gw.1 vwCl [(zOX9 h m_code m_words m_endings m_slip m_guess m_base m_n m_fixedMany m_acts m_kept m_isRead m_isMade m_parts m_total m_found m_from0 m_kind0 m_choices), (zA gw (h 1018) 81 m_steps)] H) (hD : va_D A [(zOX9 h m_code m_words m_endings m_slip m_guess m_base m_n m_fixedMany m_acts m_kept m_isRead m_isMade m_parts m_total m_found m_from0 m_kind0 m_choices), (zA gw (h 1018) 81 m_steps)]) (hS : va_S A s.heap H locs) (hl : lv_has ls 5 [(0, .ref (h 9))]) : W p l e rmX9_step s m args below meth c H locs 0 0 (MQ below (zQ gw (some (.int (zi u.1))) [(zOX9 h (u.2.1) m_words m_endings m_slip m_guess m_base m_n m_fixedMany m_acts m_kept (u.2.2.2) m_isMade m_parts m_total m_found m_from0 m_kind0 m_choices), (zA gw (h 1018) 81 (u.2.2.1))] A) args s 0 0 A) (F0 m 35 ls []) := by
  obtain ⟨hx, hb, hml, hr, hown, hts, hlk, hK, hA, hnm⟩ := id F
  have hown : s.vm.findClass RX9 = some m.cls := hown
  unfold m_X9_step_35 at hm
  refine lv_aload_n hx hb dX9_step_35 rfl (lv_at hl 0 rfl) ?_
  obtain ⟨u_36, hu_36, hm⟩ := bd_e hm
  obtain ⟨r_36, m_code_36⟩ := u_36
  refine z_callV (As := []) (rest := []) (wr := [(zA gw (h 1018) 81 m_steps)]) (ws' := [(zOX9 h m_code_36 m_words m_endings m_slip m_guess m_base m_n m_fixedMany m_acts m_kept m_isRead m_isMade m_parts m_total m_found m_from0 m_kind0 m_choices), (zA gw (h 1018) 81 m_steps)]) ⟨hx, hb, hml, hown, hts⟩ (c_X9_fail l gw h m_words m_endings m_slip m_guess m_base m_n m_fixedMany m_acts m_kept m_isRead m_isMade m_parts m_total m_found m_from0 m_kind0 m_choices m_code _ hu_36 H.size) (cwV 0 hts gX9_step_X9_fail rfl rfl rfl (by decide +kernel) ⟨Nat.le_of_ble_eq_true rfl, Nat.le_of_ble_eq_true rfl⟩) hK hP hD hS hA [0] [1] [1, 0] (by decide) rfl rfl (by decide) (by decide) rfl (by decide) 0 9 rfl rfl rfl rfl hl.1 (Nat.le_of_ble_eq_true rfl) dX9_step_36 ⟨Nat.zero_le _, Nat.zero_le _⟩ rfl (fun H locs hP hD hS => ?_)
  have hP : va_P gw.1 vwCl [(zOX9 h m_code_36 m_words m_endings m_slip m_guess m_base m_n m_fixedMany m_acts m_kept m_isRead m_isMade m_parts m_total m_found m_from0 m_kind0 m_choices), (zA gw (h 1018) 81 m_steps)] H := hP
  have hD : va_D A [(zOX9 h m_code_36 m_words m_endings m_slip m_guess m_base m_n m_fixedMany m_acts m_kept m_isRead m_isMade m_parts m_total m_found m_from0 m_kind0 m_choices), (zA gw (h 1018) 81 m_steps)] := hD
  refine W.eq (g2 := F0 m 39 ls [.int (zi r_36)]) rfl ?_
  cases hm
  exact z_iret hx hb hr hlk hP hD hS dX9_step_39
def m_X9_step (x1 : Int) (x2 : Int) (x3 : Int) (m_code : Int) (m_steps : Nat → Int) (m_isRead : Int) : Option (Int × Int × (Nat → Int) × Int) :=
  gd (inI x1) <|
  if x1 < 0 then
    m_X9_step_35 0 m_steps m_isRead
  else
    if 9 ≤ x1 then
      m_X9_step_35 0 m_steps m_isRead
    else
      gd (inI x2) <|
      if x2 < 0 then
        m_X9_step_35 0 m_steps m_isRead
      else
        if 9 ≤ x2 then
          m_X9_step_35 0 m_steps m_isRead
        else
          gd (inI x3) <|
          if x3 < 0 then
            m_X9_step_35 0 m_steps m_isRead
          else
            if x3 ≤ 90 then
              gd (0 ≤ ((9 * x1) + x2) ∧ ((9 * x1) + x2) < 81) <|
              vl (m_steps (Int.toNat ((9 * x1) + x2))) fun x4_51 =>
              gd (0 ≤ ((9 * x1) + x2) ∧ ((9 * x1) + x2) < 81) <|
              vl (uz m_steps (Int.toNat ((9 * x1) + x2)) x3) fun m_steps_64 =>
              some (x4_51, 0, m_steps_64, 0)
            else
              m_X9_step_35 0 m_steps m_isRead
set_option maxHeartbeats 4000000 in
set_option maxRecDepth 100000 in
theorem w_X9_step (F : zF p s m args meth c A gw cX9_step 5 (some .int) wsX9_step yX9_step) (h : Nat → Nat) (m_words : Int) (m_endings : Int) (m_slip : Int) (m_guess : Int) (m_base : Int) (m_n : Int) (m_fixedMany : Int) (m_acts : Int) (m_kept : Int) (m_isMade : Int) (m_parts : Int) (m_total : Int) (m_found : Int) (m_from0 : Int) (m_kind0 : Int) (m_choices : Int) (x1 : Int) (x2 : Int) (x3 : Int) (m_code : Int) (m_steps : Nat → Int) (m_isRead : Int) (u : Int × Int × (Nat → Int) × Int) (hm : m_X9_step x1 x2 x3 m_code m_steps m_isRead = some u) (H : Heap) (locs : List Loc) (ls : Array Slot) (hP : va_P gw.1 vwCl [(zOX9 h m_code m_words m_endings m_slip m_guess m_base m_n m_fixedMany m_acts m_kept m_isRead m_isMade m_parts m_total m_found m_from0 m_kind0 m_choices), (zA gw (h 1018) 81 m_steps)] H) (hD : va_D A [(zOX9 h m_code m_words m_endings m_slip m_guess m_base m_n m_fixedMany m_acts m_kept m_isRead m_isMade m_parts m_total m_found m_from0 m_kind0 m_choices), (zA gw (h 1018) 81 m_steps)]) (hS : va_S A s.heap H locs) (hl : lv_has ls 5 [(0, .ref (h 9)), (1, .int (zi x1)), (2, .int (zi x2)), (3, .int (zi x3))]) : W p l e rmX9_step s m args below meth c H locs 0 0 (MQ below (zQ gw (some (.int (zi u.1))) [(zOX9 h (u.2.1) m_words m_endings m_slip m_guess m_base m_n m_fixedMany m_acts m_kept (u.2.2.2) m_isMade m_parts m_total m_found m_from0 m_kind0 m_choices), (zA gw (h 1018) 81 (u.2.2.1))] A) args s 0 0 A) (F0 m 0 ls []) := by
  obtain ⟨hx, hb, hml, hr, hown, hts, hlk, hK, hA, hnm⟩ := id F
  have hown : s.vm.findClass RX9 = some m.cls := hown
  unfold m_X9_step at hm
  refine lv_aload_n hx hb dX9_step_0 rfl (lv_at hl 0 rfl) ?_
  refine lv_iconst (v := zi 0) hx hb dX9_step_1 rfl ?_
  refine va_put (D := gw.1) (ci := 9) (v := .int (zi 0)) (ty := .int) (C := RX9) (T := TX9) (N := 61) hx hb hts iX9_step_X9 tyX9 tyX9_ok nmX9 hown hK.1 hP hD hS 0 rfl rfl 0 (by decide) (hts (.fieldLink RX9 151 "SoundLineModel" "code" "I") (by decide +kernel)) (fun _ h9 => h9) rfl (by decide +kernel) rfl rfl (Nat.le_of_ble_eq_true rfl) dX9_step_2 (fun H locs hP hD hS => ?_)
  have hP : va_P gw.1 vwCl [(zOX9 h 0 m_words m_endings m_slip m_guess m_base m_n m_fixedMany m_acts m_kept m_isRead m_isMade m_parts m_total m_found m_from0 m_kind0 m_choices), (zA gw (h 1018) 81 m_steps)] H := hP
  have hD : va_D A [(zOX9 h 0 m_words m_endings m_slip m_guess m_base m_n m_fixedMany m_acts m_kept m_isRead m_isMade m_parts m_total m_found m_from0 m_kind0 m_choices), (zA gw (h 1018) 81 m_steps)] := hD
  refine lv_iload_n hx hb dX9_step_5 rfl (lv_at hl 1 rfl) ?_
  obtain ⟨g_6, hm⟩ := gd_e hm
  refine z_if_lt (tgt := 35) hx hb g_6 dX9_step_6 (by decide) (fun c_6 => ?_) (fun c_6 => ?_)
  · have hm := if_p hm c_6
    exact w_X9_step_35 F h m_words m_endings m_slip m_guess m_base m_n m_fixedMany m_acts m_kept m_isMade m_parts m_total m_found m_from0 m_kind0 m_choices 0 m_steps m_isRead _ hm _ _ _ hP hD hS (lv_sub hl [0] rfl)
  · have hm := if_n hm c_6
    refine lv_iload_n hx hb dX9_step_9 rfl (lv_at hl 1 rfl) ?_
    refine lv_bipush (v := zi 9) hx hb dX9_step_10 (by decide) ?_
    refine z_icmp_ge (tgt := 35) hx hb g_6 (by decide) dX9_step_12 (by decide) (fun c_12 => ?_) (fun c_12 => ?_)
    · have hm := if_p hm c_12
      exact w_X9_step_35 F h m_words m_endings m_slip m_guess m_base m_n m_fixedMany m_acts m_kept m_isMade m_parts m_total m_found m_from0 m_kind0 m_choices 0 m_steps m_isRead _ hm _ _ _ hP hD hS (lv_sub hl [0] rfl)
    · have hm := if_n hm c_12
      refine lv_iload_n hx hb dX9_step_15 rfl (lv_at hl 2 rfl) ?_
      obtain ⟨g_16, hm⟩ := gd_e hm
      refine z_if_lt (tgt := 35) hx hb g_16 dX9_step_16 (by decide) (fun c_16 => ?_) (fun c_16 => ?_)
      · have hm := if_p hm c_16
        exact w_X9_step_35 F h m_words m_endings m_slip m_guess m_base m_n m_fixedMany m_acts m_kept m_isMade m_parts m_total m_found m_from0 m_kind0 m_choices 0 m_steps m_isRead _ hm _ _ _ hP hD hS (lv_sub hl [0] rfl)
      · have hm := if_n hm c_16
        refine lv_iload_n hx hb dX9_step_19 rfl (lv_at hl 2 rfl) ?_
        refine lv_bipush (v := zi 9) hx hb dX9_step_20 (by decide) ?_
        refine z_icmp_ge (tgt := 35) hx hb g_16 (by decide) dX9_step_22 (by decide) (fun c_22 => ?_) (fun c_22 => ?_)
        · have hm := if_p hm c_22
          exact w_X9_step_35 F h m_words m_endings m_slip m_guess m_base m_n m_fixedMany m_acts m_kept m_isMade m_parts m_total m_found m_from0 m_kind0 m_choices 0 m_steps m_isRead _ hm _ _ _ hP hD hS (lv_sub hl [0] rfl)
        · have hm := if_n hm c_22
          refine lv_iload_n hx hb dX9_step_25 rfl (lv_at hl 3 rfl) ?_
          obtain ⟨g_26, hm⟩ := gd_e hm
          refine z_if_lt (tgt := 35) hx hb g_26 dX9_step_26 (by decide) (fun c_26 => ?_) (fun c_26 => ?_)
          · have hm := if_p hm c_26
            exact w_X9_step_35 F h m_words m_endings m_slip m_guess m_base m_n m_fixedMany m_acts m_kept m_isMade m_parts m_total m_found m_from0 m_kind0 m_choices 0 m_steps m_isRead _ hm _ _ _ hP hD hS (lv_sub hl [0] rfl)
          · have hm := if_n hm c_26
            refine lv_iload_n hx hb dX9_step_29 rfl (lv_at hl 3 rfl) ?_
            refine lv_bipush (v := zi 90) hx hb dX9_step_30 (by decide) ?_
            refine z_icmp_le (tgt := 40) hx hb g_26 (by decide) dX9_step_32 (by decide) (fun c_32 => ?_) (fun c_32 => ?_)
            · have hm := if_p hm c_32
              refine lv_aload_n hx hb dX9_step_40 rfl (lv_at hl 0 rfl) ?_
              refine va_get (D := gw.1) (ci := 9) (v := .ref (h 1018)) (C := RX9) (T := TX9) (N := 61) hx hb hts iX9_step_X9 hown hK.1 hP 0 rfl rfl 18 (by decide) (hts (.fieldLink RX9 57 "SoundLineModel" "steps" "[I") (by decide +kernel)) (fun _ h9 => h9) rfl dX9_step_41 ?_
              refine lv_bipush (v := zi 9) hx hb dX9_step_44 (by decide) ?_
              refine lv_iload_n hx hb dX9_step_46 rfl (lv_at hl 1 rfl) ?_
              refine z_imul hx hb dX9_step_47 ?_
              refine lv_iload_n hx hb dX9_step_48 rfl (lv_at hl 2 rfl) ?_
              refine z_iadd hx hb dX9_step_49 ?_
              obtain ⟨g_50, hm⟩ := gd_e hm
              refine z_iald hx hb hK hP 1 rfl g_50 (by decide) dX9_step_50 ?_
              obtain ⟨x4_51, e_x4_51, hm⟩ := vl_e hm
              refine z_top e_x4_51 ?_
              refine lv_istore (lv' := [(4, .int (zi x4_51)), (0, .ref (h 9)), (1, .int (zi x1)), (2, .int (zi x2)), (3, .int (zi x3))]) hx hb dX9_step_51 hl (by decide) rfl (fun ls hl => ?_)
              refine lv_aload_n hx hb dX9_step_53 rfl (lv_at hl 1 rfl) ?_
              refine va_get (D := gw.1) (ci := 9) (v := .ref (h 1018)) (C := RX9) (T := TX9) (N := 61) hx hb hts iX9_step_X9 hown hK.1 hP 0 rfl rfl 18 (by decide) (hts (.fieldLink RX9 57 "SoundLineModel" "steps" "[I") (by decide +kernel)) (fun _ h9 => h9) rfl dX9_step_54 ?_
              refine lv_bipush (v := zi 9) hx hb dX9_step_57 (by decide) ?_
              refine lv_iload_n hx hb dX9_step_59 rfl (lv_at hl 2 rfl) ?_
              refine z_imul hx hb dX9_step_60 ?_
              refine lv_iload_n hx hb dX9_step_61 rfl (lv_at hl 3 rfl) ?_
              refine z_iadd hx hb dX9_step_62 ?_
              refine lv_iload_n hx hb dX9_step_63 rfl (lv_at hl 4 rfl) ?_
              obtain ⟨g_64, hm⟩ := gd_e hm
              obtain ⟨m_steps_64, e_m_steps_64, hm⟩ := vl_e hm
              refine z_iast hx hb hK hP hD hS 1 rfl g_64 (by decide) e_m_steps_64 dX9_step_64 (fun H locs hP hD hS => ?_)
              have hP : va_P gw.1 vwCl [(zOX9 h 0 m_words m_endings m_slip m_guess m_base m_n m_fixedMany m_acts m_kept m_isRead m_isMade m_parts m_total m_found m_from0 m_kind0 m_choices), (zA gw (h 1018) 81 m_steps_64)] H := hP
              have hD : va_D A [(zOX9 h 0 m_words m_endings m_slip m_guess m_base m_n m_fixedMany m_acts m_kept m_isRead m_isMade m_parts m_total m_found m_from0 m_kind0 m_choices), (zA gw (h 1018) 81 m_steps_64)] := hD
              refine lv_aload_n hx hb dX9_step_65 rfl (lv_at hl 1 rfl) ?_
              refine lv_iconst (v := zi 0) hx hb dX9_step_66 rfl ?_
              refine va_put (D := gw.1) (ci := 9) (v := .int (zi 0)) (ty := .boolean) (C := RX9) (T := TX9) (N := 61) hx hb hts iX9_step_X9 tyX9 tyX9_ok nmX9 hown hK.1 hP hD hS 0 rfl rfl 41 (by decide) (hts (.fieldLink RX9 154 "SoundLineModel" "isRead" "Z") (by decide +kernel)) (fun _ h9 => h9) rfl (by decide +kernel) (by decide) (by decide) (Nat.le_of_ble_eq_true rfl) dX9_step_67 (fun H locs hP hD hS => ?_)
              have hP : va_P gw.1 vwCl [(zOX9 h 0 m_words m_endings m_slip m_guess m_base m_n m_fixedMany m_acts m_kept 0 m_isMade m_parts m_total m_found m_from0 m_kind0 m_choices), (zA gw (h 1018) 81 m_steps_64)] H := hP
              have hD : va_D A [(zOX9 h 0 m_words m_endings m_slip m_guess m_base m_n m_fixedMany m_acts m_kept 0 m_isMade m_parts m_total m_found m_from0 m_kind0 m_choices), (zA gw (h 1018) 81 m_steps_64)] := hD
              refine lv_iload hx hb dX9_step_70 (lv_at hl 0 rfl) ?_
              cases hm
              exact z_iret hx hb hr hlk hP hD hS dX9_step_72
            · have hm := if_n hm c_32
              exact w_X9_step_35 F h m_words m_endings m_slip m_guess m_base m_n m_fixedMany m_acts m_kept m_isMade m_parts m_total m_found m_from0 m_kind0 m_choices 0 m_steps m_isRead _ hm _ _ _ hP hD hS (lv_sub hl [0] rfl)
theorem c_X9_step (l : Launch) (gw : zG) (h : Nat → Nat) (m_words : Int) (m_endings : Int) (m_slip : Int) (m_guess : Int) (m_base : Int) (m_n : Int) (m_fixedMany : Int) (m_acts : Int) (m_kept : Int) (m_isMade : Int) (m_parts : Int) (m_total : Int) (m_found : Int) (m_from0 : Int) (m_kind0 : Int) (m_choices : Int) (x1 : Int) (x2 : Int) (x3 : Int) (m_code : Int) (m_steps : Nat → Int) (m_isRead : Int) (u : Int × Int × (Nat → Int) × Int) (hm : m_X9_step x1 x2 x3 m_code m_steps m_isRead = some u) (sz : Nat) : Met l yX9_step wsX9_step rmX9_step (va_Pc [.ref (h 9), .int (zi x1), .int (zi x2), .int (zi x3)] (zPre gw [(zOX9 h m_code m_words m_endings m_slip m_guess m_base m_n m_fixedMany m_acts m_kept m_isRead m_isMade m_parts m_total m_found m_from0 m_kind0 m_choices), (zA gw (h 1018) 81 m_steps)] sz)) (zQ gw (some (.int (zi u.1))) [(zOX9 h (u.2.1) m_words m_endings m_slip m_guess m_base m_n m_fixedMany m_acts m_kept (u.2.2.2) m_isMade m_parts m_total m_found m_from0 m_kind0 m_choices), (zA gw (h 1018) 81 (u.2.2.1))] (va_A [(zOX9 h m_code m_words m_endings m_slip m_guess m_base m_n m_fixedMany m_acts m_kept m_isRead m_isMade m_parts m_total m_found m_from0 m_kind0 m_choices), (zA gw (h 1018) 81 m_steps)] sz)) 0 0 (va_A [(zOX9 h m_code m_words m_endings m_slip m_guess m_base m_n m_fixedMany m_acts m_kept m_isRead m_isMade m_parts m_total m_found m_from0 m_kind0 m_choices), (zA gw (h 1018) 81 m_steps)] sz) :=
  z_met (by decide) rfl (Nat.le_of_ble_eq_true rfl) rfl (fun p e s m args below meth c A F hsz ls hl hP hD => w_X9_step F h m_words m_endings m_slip m_guess m_base m_n m_fixedMany m_acts m_kept m_isMade m_parts m_total m_found m_from0 m_kind0 m_choices x1 x2 x3 m_code m_steps m_isRead u hm s.heap [] ls hP hD va_S.rf hl)
abbrev rmX9_cell : Room := { frames := 0, cells := 0, slots := 0, locals := 0 }
def m_X9_cell (x0 : Int) (x1 : Int) (x2 : Int) : Option (Int) :=
  some ((((((x0 * 60) + x1) * 9) + x2) + 1) * 37)
set_option maxHeartbeats 4000000 in
set_option maxRecDepth 100000 in
theorem w_X9_cell (F : zF p s m args meth c A gw cX9_cell 3 (some .int) wsX9_cell yX9_cell) (h : Nat → Nat) (x0 : Int) (x1 : Int) (x2 : Int) (u : Int) (hm : m_X9_cell x0 x1 x2 = some u) (H : Heap) (locs : List Loc) (ls : Array Slot) (hP : va_P gw.1 vwCl [] H) (hD : va_D A []) (hS : va_S A s.heap H locs) (hl : lv_has ls 3 [(0, .int (zi x0)), (1, .int (zi x1)), (2, .int (zi x2))]) : W p l e rmX9_cell s m args below meth c H locs 0 0 (MQ below (zQ gw (some (.int (zi u))) [] A) args s 0 0 A) (F0 m 0 ls []) := by
  obtain ⟨hx, hb, hml, hr, hown, hts, hlk, hK, hA, hnm⟩ := id F
  have hown : s.vm.findClass RX9 = some m.cls := hown
  unfold m_X9_cell at hm
  refine lv_iload_n hx hb dX9_cell_0 rfl (lv_at hl 0 rfl) ?_
  refine lv_bipush (v := zi 60) hx hb dX9_cell_1 (by decide) ?_
  refine z_imul hx hb dX9_cell_3 ?_
  refine lv_iload_n hx hb dX9_cell_4 rfl (lv_at hl 1 rfl) ?_
  refine z_iadd hx hb dX9_cell_5 ?_
  refine lv_bipush (v := zi 9) hx hb dX9_cell_6 (by decide) ?_
  refine z_imul hx hb dX9_cell_8 ?_
  refine lv_iload_n hx hb dX9_cell_9 rfl (lv_at hl 2 rfl) ?_
  refine z_iadd hx hb dX9_cell_10 ?_
  refine lv_iconst (v := zi 1) hx hb dX9_cell_11 rfl ?_
  refine z_iadd hx hb dX9_cell_12 ?_
  refine lv_bipush (v := zi 37) hx hb dX9_cell_13 (by decide) ?_
  refine z_imul hx hb dX9_cell_15 ?_
  cases hm
  exact z_iret hx hb hr hlk hP hD hS dX9_cell_16
theorem c_X9_cell (l : Launch) (gw : zG) (h : Nat → Nat) (x0 : Int) (x1 : Int) (x2 : Int) (u : Int) (hm : m_X9_cell x0 x1 x2 = some u) (sz : Nat) : Met l yX9_cell wsX9_cell rmX9_cell (va_Pc [.int (zi x0), .int (zi x1), .int (zi x2)] (zPre gw [] sz)) (zQ gw (some (.int (zi u))) [] (va_A [] sz)) 0 0 (va_A [] sz) :=
  z_met (by decide) rfl (Nat.le_of_ble_eq_true rfl) rfl (fun p e s m args below meth c A F hsz ls hl hP hD => w_X9_cell F h x0 x1 x2 u hm s.heap [] ls hP hD va_S.rf hl)
end
