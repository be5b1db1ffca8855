theorem iX0_keep_X0 : ∀ w ∈ wsX00, w ∈ wsX0_keep := by decide +kernel
theorem iX0_keep_X4 : ∀ w ∈ wsX40, w ∈ wsX0_keep := by decide +kernel
theorem iX0_undo_X0 : ∀ w ∈ wsX00, w ∈ wsX0_undo := by decide +kernel
abbrev rmX0_keep : Room := { frames := 2, cells := 4, slots := 112, locals := 60 }
abbrev rmX0_undo : Room := { frames := 2, cells := 0, slots := 0, locals := 60 }
section
variable {p : Program} {l : Launch} {e : Env} {s : State} {m : MethodId} {args : Array Value} {below : List Frame} {meth : Method} {c : Code} {A : Nat → Prop} {gw : zG} {Q : State → Prop}
set_option maxHeartbeats 4000000 in
set_option maxRecDepth 100000 in
theorem w_X0_keep_28 (F : zF p s m args meth c A gw cX0_keep 2 none wsX0_keep yX0_keep) (h : Nat → Nat) (a_next a_kept : Int) (s_length : Int) (s_letters s_breaks s_fixed : Nat → Int) (G : List zS) (g : zS) (hg : G[a_next.toNat]? = some g) (hn : 0 ≤ a_next ∧ a_next < 80) (hk : 0 ≤ a_kept ∧ a_kept ≤ 80) {cells slots : Nat} (hc : cells ≤ 4) (hs : slots ≤ 112) (H : Heap) (locs : List Loc) (ls : Array Slot) (hP : va_P gw.1 vwCl ([(zOX0 h a_next a_kept), (zOX4 h s_length), (zA gw (h 501) 36 s_letters), (zA gw (h 502) 36 s_breaks), (zA gw (h 503) 36 s_fixed), (zR gw (h 100) 80 (zRg G))] ++ zPl gw G) H) (hD : va_D A ([(zOX0 h a_next a_kept), (zOX4 h s_length), (zA gw (h 501) 36 s_letters), (zA gw (h 502) 36 s_breaks), (zA gw (h 503) 36 s_fixed), (zR gw (h 100) 80 (zRg G))] ++ zPl gw G)) (hS : va_S A s.heap H locs) (hl : lv_has ls 2 [(0, .ref (h 0)), (1, .ref (h 4))]) : W p l e rmX0_keep s m args below meth c H locs cells slots (MQ below (zQp gw (fun v w => v = none ∧ ∃ G' : List zS, G'.map Prod.snd = (G.map Prod.snd).set a_next.toNat (zCopy g.2 (s_length, s_letters, s_breaks, s_fixed)) ∧ w = [(zOX0 h (Int.tmod (a_next + 1) 80) (min (a_kept + 1) 80)), (zOX4 h s_length), (zA gw (h 501) 36 s_letters), (zA gw (h 502) 36 s_breaks), (zA gw (h 503) 36 s_fixed), (zR gw (h 100) 80 (zRg G'))] ++ zPl gw G') A) args s 4 112 A) (F0 m 28 ls []) := by
  obtain ⟨hx, hb, hml, hr, hown, hts, hlk, hK, hA, hnm⟩ := id F
  have hown : s.vm.findClass RX0 = some m.cls := hown
  refine W.widen (k := 4) (n := 112) hc hs ?_
  refine lv_aload_n hx hb dX0_keep_28 rfl (lv_at hl 0 rfl) ?_
  refine va_get (D := gw.1) (ci := 0) (v := .ref (h 100)) (C := RX0) (T := TX0) (N := 3) hx hb hts iX0_keep_X0 hown hK.1 hP 0 rfl rfl 0 (by decide) (hts (.fieldLink RX0 11 "SoundLine$Acts" "ring" "[LSoundLine$Sheet;") (by decide +kernel)) (fun _ h9 => h9) rfl dX0_keep_29 ?_
  refine lv_aload_n hx hb dX0_keep_32 rfl (lv_at hl 0 rfl) ?_
  refine va_get (D := gw.1) (ci := 0) (v := .int (zi a_next)) (C := RX0) (T := TX0) (N := 3) hx hb hts iX0_keep_X0 hown hK.1 hP 0 rfl rfl 1 (by decide) (hts (.fieldLink RX0 17 "SoundLine$Acts" "next" "I") (by decide +kernel)) (fun _ h9 => h9) rfl dX0_keep_33 ?_
  refine z_aald hx hb hK hP 5 rfl hn (by decide) (zRg_at hg) dX0_keep_36 ?_
  refine lv_aload_n hx hb dX0_keep_37 rfl (lv_at hl 1 rfl) ?_
  obtain ⟨g2, eg2⟩ : ∃ z : zS, z = (g.1, zCopy g.2 (s_length, s_letters, s_breaks, s_fixed)) := ⟨_, rfl⟩
  have hs1 : zAr ([(zOX0 h a_next a_kept), (zOX4 h s_length), (zA gw (h 501) 36 s_letters), (zA gw (h 502) 36 s_breaks), (zA gw (h 503) 36 s_fixed), (zR gw (h 100) 80 (zRg G))] ++ zPl gw G) ([(zSo g), (zOX4 h s_length), (zA gw g.1.2.1 36 g.2.2.1), (zA gw g.1.2.2.1 36 g.2.2.2.1), (zA gw g.1.2.2.2 36 g.2.2.2.2), (zA gw (h 501) 36 s_letters), (zA gw (h 502) 36 s_breaks), (zA gw (h 503) 36 s_fixed)] ++ ([(zOX0 h a_next a_kept), (zR gw (h 100) 80 (zRg G))] ++ zPl gw (G.take a_next.toNat ++ G.drop (a_next.toNat + 1)))) := ((zPl_out gw hg).head.trans (zAr.eq (List.append_assoc _ _ _).symm)).trans (z_tl1 (zAr.of [6, 1, 7, 8, 9, 2, 3, 4, 0, 5] (by decide) rfl))
  have hs2 : zAr (([(zOX0 h a_next a_kept), (zR gw (h 100) 80 (zRg G))] ++ zPl gw (G.take a_next.toNat ++ G.drop (a_next.toNat + 1))) ++ [(g.1.1, .inr (4, [.int (zi s_length), .ref g.1.2.1, .ref g.1.2.2.1, .ref g.1.2.2.2])), (zOX4 h s_length), (zA gw g.1.2.1 36 (zcp s_letters g.2.2.1 0 0 36)), (zA gw g.1.2.2.1 36 (zcp s_breaks g.2.2.2.1 0 0 36)), (zA gw g.1.2.2.2 36 (zcp s_fixed g.2.2.2.2 0 0 36)), (zA gw (h 501) 36 s_letters), (zA gw (h 502) 36 s_breaks), (zA gw (h 503) 36 s_fixed)]) ([(zOX0 h a_next a_kept), (zOX4 h s_length), (zA gw (h 501) 36 s_letters), (zA gw (h 502) 36 s_breaks), (zA gw (h 503) 36 s_fixed), (zR gw (h 100) 80 (zRg G))] ++ zPl gw (G.set a_next.toNat g2)) := by
    rw [eg2]
    exact ((z_tl2 (zAr.of (ws' := [(zOX0 h a_next a_kept), (zOX4 h s_length), (zA gw (h 501) 36 s_letters), (zA gw (h 502) 36 s_breaks), (zA gw (h 503) 36 s_fixed), (zR gw (h 100) 80 (zRg G))] ++ zSc gw (g.1, zCopy g.2 (s_length, s_letters, s_breaks, s_fixed))) [0, 3, 7, 8, 9, 1, 2, 4, 5, 6] (by decide) rfl)).trans (zAr.eq (List.append_assoc _ _ _))).trans (zPl_in gw hg).head
  refine z_callVNA (As := [.ref (h 4)]) (rest := []) (v := none) (wc := [(zSo g), (zOX4 h s_length), (zA gw g.1.2.1 36 g.2.2.1), (zA gw g.1.2.2.1 36 g.2.2.2.1), (zA gw g.1.2.2.2 36 g.2.2.2.2), (zA gw (h 501) 36 s_letters), (zA gw (h 502) 36 s_breaks), (zA gw (h 503) 36 s_fixed)]) (w1 := [(g.1.1, .inr (4, [.int (zi s_length), .ref g.1.2.1, .ref g.1.2.2.1, .ref g.1.2.2.2])), (zOX4 h s_length), (zA gw g.1.2.1 36 (zcp s_letters g.2.2.1 0 0 36)), (zA gw g.1.2.2.1 36 (zcp s_breaks g.2.2.2.1 0 0 36)), (zA gw g.1.2.2.2 36 (zcp s_fixed g.2.2.2.2 0 0 36)), (zA gw (h 501) 36 s_letters), (zA gw (h 502) 36 s_breaks), (zA gw (h 503) 36 s_fixed)]) ⟨hx, hb, hml, hown, hts⟩ (c_X4_copyFrom l gw (zlk [(4, g.1.1), (501, g.1.2.1), (502, g.1.2.2.1), (503, g.1.2.2.2), (10, h 4), (11, h 501), (12, h 502), (13, h 503)]) g.2.1 g.2.2.1 g.2.2.2.1 g.2.2.2.2 s_length s_letters s_breaks s_fixed _ (m_copy g.2 (s_length, s_letters, s_breaks, s_fixed)) H.size) ⟨va_cnB 1 hts gX0_keep_X4_copyFrom_n22 rfl rfl rfl (hK.2.2 (RX0, 22, yX4_copyFrom, RX8) (by decide +kernel)) (hts (.initialized RX4) (by decide +kernel)) (by decide +kernel) ⟨Nat.le_of_ble_eq_true rfl, Nat.le_of_ble_eq_true rfl⟩, (hts (.instanceMethod yX4_copyFrom) (by decide +kernel)), (hts (.selects RX4 yX4_copyFrom yX4_copyFrom) (by decide +kernel))⟩ hK hP hD hS hA hs1 hs2 0 4 rfl rfl rfl rfl hl.1 (Nat.le_of_ble_eq_true rfl) dX0_keep_38 ⟨Nat.le_of_ble_eq_true rfl, Nat.le_of_ble_eq_true rfl⟩ rfl (fun H locs hP hD hS => ?_)
  refine W.eq (g2 := F0 m 41 ls []) rfl ?_
  have er : zRg G = zRg (G.set a_next.toNat g2) := (zRg_set hg (by rw [eg2])).symm
  have em : (G.set a_next.toNat g2).map Prod.snd = (G.map Prod.snd).set a_next.toNat (zCopy g.2 (s_length, s_letters, s_breaks, s_fixed)) := by rw [List.map_set, eg2]
  rw [er] at hP hD
  clear hs1 hs2 er
  generalize G.set a_next.toNat g2 = G2 at hP hD em
  refine lv_aload_n hx hb dX0_keep_41 rfl (lv_at hl 0 rfl) ?_
  refine lv_aload_n hx hb dX0_keep_42 rfl (lv_at hl 0 rfl) ?_
  refine va_get (D := gw.1) (ci := 0) (v := .int (zi a_next)) (C := RX0) (T := TX0) (N := 3) hx hb hts iX0_keep_X0 hown hK.1 hP 0 rfl rfl 1 (by decide) (hts (.fieldLink RX0 17 "SoundLine$Acts" "next" "I") (by decide +kernel)) (fun _ h9 => h9) rfl dX0_keep_43 ?_
  refine lv_iconst (v := zi 1) hx hb dX0_keep_46 rfl ?_
  refine z_iadd hx hb dX0_keep_47 ?_
  refine lv_bipush (v := zi 80) hx hb dX0_keep_48 (by decide) ?_
  refine z_irem hx hb ⟨⟨by omega, by omega⟩, by decide, by decide⟩ dX0_keep_50 ?_
  refine va_put (D := gw.1) (ci := 0) (v := .int (zi (Int.tmod (a_next + 1) 80))) (ty := .int) (C := RX0) (T := TX0) (N := 3) hx hb hts iX0_keep_X0 tyX0 tyX0_ok nmX0 hown hK.1 hP hD hS 0 rfl rfl 1 (by decide) (hts (.fieldLink RX0 17 "SoundLine$Acts" "next" "I") (by decide +kernel)) (fun _ h9 => h9) rfl (by decide +kernel) rfl rfl (Nat.le_of_ble_eq_true rfl) dX0_keep_51 (fun H locs hP hD hS => ?_)
  have hP : va_P gw.1 vwCl ([(zOX0 h (Int.tmod (a_next + 1) 80) a_kept), (zOX4 h s_length), (zA gw (h 501) 36 s_letters), (zA gw (h 502) 36 s_breaks), (zA gw (h 503) 36 s_fixed), (zR gw (h 100) 80 (zRg G2))] ++ zPl gw G2) H := hP
  have hD : va_D A ([(zOX0 h (Int.tmod (a_next + 1) 80) a_kept), (zOX4 h s_length), (zA gw (h 501) 36 s_letters), (zA gw (h 502) 36 s_breaks), (zA gw (h 503) 36 s_fixed), (zR gw (h 100) 80 (zRg G2))] ++ zPl gw G2) := hD
  refine lv_aload_n hx hb dX0_keep_54 rfl (lv_at hl 0 rfl) ?_
  refine lv_aload_n hx hb dX0_keep_55 rfl (lv_at hl 0 rfl) ?_
  refine va_get (D := gw.1) (ci := 0) (v := .int (zi a_kept)) (C := RX0) (T := TX0) (N := 3) hx hb hts iX0_keep_X0 hown hK.1 hP 0 rfl rfl 2 (by decide) (hts (.fieldLink RX0 26 "SoundLine$Acts" "kept" "I") (by decide +kernel)) (fun _ h9 => h9) rfl dX0_keep_56 ?_
  refine lv_iconst (v := zi 1) hx hb dX0_keep_59 rfl ?_
  refine z_iadd hx hb dX0_keep_60 ?_
  refine lv_bipush (v := zi 80) hx hb dX0_keep_61 (by decide) ?_
  refine z_mmin hx hb (hml.trans hl.1.symm) hown (hts (.methodLink RX0 29 Lib.Math.min.name) (by decide +kernel)) (hts (.static Lib.Math.min.name) (by decide +kernel)) (hts (.initialized "java/lang/Math") (by decide +kernel)) (hts (.code Lib.Math.min.name Lib.Math.min.code 2 (some .int)) (by decide +kernel)) (Nat.le_of_ble_eq_true rfl) (Nat.le_of_ble_eq_true rfl) (Nat.le_of_ble_eq_true rfl) (Nat.le_of_ble_eq_true rfl) ⟨by omega, by omega⟩ (by decide) dX0_keep_63 ?_
  refine va_put (D := gw.1) (ci := 0) (v := .int (zi (min (a_kept + 1) 80))) (ty := .int) (C := RX0) (T := TX0) (N := 3) hx hb hts iX0_keep_X0 tyX0 tyX0_ok nmX0 hown hK.1 hP hD hS 0 rfl rfl 2 (by decide) (hts (.fieldLink RX0 26 "SoundLine$Acts" "kept" "I") (by decide +kernel)) (fun _ h9 => h9) rfl (by decide +kernel) rfl rfl (Nat.le_of_ble_eq_true rfl) dX0_keep_66 (fun H locs hP hD hS => ?_)
  exact z_vretP hx hb hr hlk hP hD hS ⟨rfl, G2, em, rfl⟩ (Nat.le_refl _) (Nat.le_refl _) dX0_keep_69
set_option maxHeartbeats 4000000 in
set_option maxRecDepth 100000 in
theorem c_X0_keep0 (l : Launch) (gw : zG) (h : Nat → Nat) (a_next a_kept : Int) (s_length : Int) (s_letters s_breaks s_fixed : Nat → Int) (G : List zS) (hn : 0 ≤ a_next ∧ a_next < 80) (hn2 : a_next ≤ (G.length : Int)) (hk : 0 ≤ a_kept ∧ a_kept ≤ 80) (sz : Nat) : Met l yX0_keep wsX0_keep rmX0_keep (va_Pc [.ref (h 0), .ref (h 4)] (zPre gw ([(zOX0 h a_next a_kept), (zOX4 h s_length), (zA gw (h 501) 36 s_letters), (zA gw (h 502) 36 s_breaks), (zA gw (h 503) 36 s_fixed), (zR gw (h 100) 80 (zRg G))] ++ zPl gw G) sz)) (zQp gw (fun v w => v = none ∧ ∃ G' : List zS, G'.map Prod.snd = zKeep (G.map Prod.snd) a_next.toNat (s_length, s_letters, s_breaks, s_fixed) ∧ w = [(zOX0 h (Int.tmod (a_next + 1) 80) (min (a_kept + 1) 80)), (zOX4 h s_length), (zA gw (h 501) 36 s_letters), (zA gw (h 502) 36 s_breaks), (zA gw (h 503) 36 s_fixed), (zR gw (h 100) 80 (zRg G'))] ++ zPl gw G') (va_A ([(zOX0 h a_next a_kept), (zOX4 h s_length), (zA gw (h 501) 36 s_letters), (zA gw (h 502) 36 s_breaks), (zA gw (h 503) 36 s_fixed), (zR gw (h 100) 80 (zRg G))] ++ zPl gw G) sz)) 4 112 (va_A ([(zOX0 h a_next a_kept), (zOX4 h s_length), (zA gw (h 501) 36 s_letters), (zA gw (h 502) 36 s_breaks), (zA gw (h 503) 36 s_fixed), (zR gw (h 100) 80 (zRg G))] ++ zPl gw G) sz) := by
  refine z_metP (lv := [(0, .ref (h 0)), (1, .ref (h 4))]) (by decide) rfl (Nat.le_of_ble_eq_true rfl) rfl (fun p e s m args below meth c A F hsz ls hl hP hD => ?_)
  obtain ⟨hx, hb, hml, hr, hown, hts, hlk, hK, hA, hnm⟩ := id F
  have hown : s.vm.findClass RX0 = some m.cls := hown
  have hS : va_S A s.heap s.heap [] := va_S.rf
  refine lv_aload_n hx hb dX0_keep_0 rfl (lv_at hl 0 rfl) ?_
  refine va_get (D := gw.1) (ci := 0) (v := .ref (h 100)) (C := RX0) (T := TX0) (N := 3) hx hb hts iX0_keep_X0 hown hK.1 hP 0 rfl rfl 0 (by decide) (hts (.fieldLink RX0 11 "SoundLine$Acts" "ring" "[LSoundLine$Sheet;") (by decide +kernel)) (fun _ h9 => h9) rfl dX0_keep_1 ?_
  refine lv_aload_n hx hb dX0_keep_4 rfl (lv_at hl 0 rfl) ?_
  refine va_get (D := gw.1) (ci := 0) (v := .int (zi a_next)) (C := RX0) (T := TX0) (N := 3) hx hb hts iX0_keep_X0 hown hK.1 hP 0 rfl rfl 1 (by decide) (hts (.fieldLink RX0 17 "SoundLine$Acts" "next" "I") (by decide +kernel)) (fun _ h9 => h9) rfl dX0_keep_5 ?_
  by_cases hlt : a_next.toNat < G.length
  · obtain ⟨g, hg⟩ : ∃ g, G[a_next.toNat]? = some g := ⟨_, List.getElem?_eq_getElem hlt⟩
    refine z_aald hx hb hK hP 5 rfl hn (by decide) (zRg_at hg) dX0_keep_8 ?_
    refine lv_ifnonnull (tgt := 28) hx hb dX0_keep_9 (by decide) ?_
    have ez : zKeep (G.map Prod.snd) a_next.toNat (s_length, s_letters, s_breaks, s_fixed) = (G.map Prod.snd).set a_next.toNat (zCopy g.2 (s_length, s_letters, s_breaks, s_fixed)) := by unfold zKeep; rw [if_pos (by rw [List.length_map]; exact hlt)]; congr 2; simp [List.getD, hg]
    rw [ez]
    exact w_X0_keep_28 F h a_next a_kept s_length s_letters s_breaks s_fixed G g hg hn hk (Nat.zero_le _) (Nat.zero_le _) _ _ ls hP hD hS hl
  · have hlen : a_next.toNat = G.length := by omega
    refine z_aald hx hb hK hP 5 rfl hn (by decide) (v := none) (by unfold zRg; rw [List.getElem?_eq_none (by omega)]; rfl) dX0_keep_8 ?_
    refine lv_ifnonnullN hx hb dX0_keep_9 ?_
    refine lv_aload_n hx hb dX0_keep_12 rfl (lv_at hl 0 rfl) ?_
    refine va_get (D := gw.1) (ci := 0) (v := .ref (h 100)) (C := RX0) (T := TX0) (N := 3) hx hb hts iX0_keep_X0 hown hK.1 hP 0 rfl rfl 0 (by decide) (hts (.fieldLink RX0 11 "SoundLine$Acts" "ring" "[LSoundLine$Sheet;") (by decide +kernel)) (fun _ h9 => h9) rfl dX0_keep_13 ?_
    refine lv_aload_n hx hb dX0_keep_16 rfl (lv_at hl 0 rfl) ?_
    refine va_get (D := gw.1) (ci := 0) (v := .int (zi a_next)) (C := RX0) (T := TX0) (N := 3) hx hb hts iX0_keep_X0 hown hK.1 hP 0 rfl rfl 1 (by decide) (hts (.fieldLink RX0 17 "SoundLine$Acts" "next" "I") (by decide +kernel)) (fun _ h9 => h9) rfl dX0_keep_17 ?_
    refine va_new (ci := 4) (fs := [.int (zi 0), .null, .null, .null]) (C := RX4) (T := TX4) (N := 4) hx hb hts iX0_keep_X4 tyX4 tyX4_ok hown (hts (.classLink RX0 9 RX4) (by decide +kernel)) (hts (.instantiable RX4 4) (by decide +kernel)) (hts (.initialized RX4) (by decide +kernel)) hK.1 hP hD hS hA rfl (fun j hj => by rcases (show j = 0 ∨ j = 1 ∨ j = 2 ∨ j = 3 by omega) with rfl | rfl | rfl | rfl <;> first | rfl | exact congrArg Value.int zi_z) (Nat.le_of_ble_eq_true rfl) (Nat.le_of_ble_eq_true rfl) dX0_keep_20 (fun q20 H hP hD hS => ?_)
    refine lv_dup hx hb dX0_keep_23 rfl ?_
    have hs1 : zAr (([(zOX0 h a_next a_kept), (zOX4 h s_length), (zA gw (h 501) 36 s_letters), (zA gw (h 502) 36 s_breaks), (zA gw (h 503) 36 s_fixed), (zR gw (h 100) 80 (zRg G))] ++ zPl gw G) ++ [(q20, .inr (4, [.int (zi 0), .null, .null, .null]))]) ([(q20, .inr (4, [.int (zi 0), .null, .null, .null]))] ++ ([(zOX0 h a_next a_kept), (zOX4 h s_length), (zA gw (h 501) 36 s_letters), (zA gw (h 502) 36 s_breaks), (zA gw (h 503) 36 s_fixed), (zR gw (h 100) 80 (zRg G))] ++ zPl gw G)) := zAr.swap
    refine z_callIN (As := []) (rest := [.ref q20, .int (zi a_next), .ref (h 100)]) (wr := [(zOX0 h a_next a_kept), (zOX4 h s_length), (zA gw (h 501) 36 s_letters), (zA gw (h 502) 36 s_breaks), (zA gw (h 503) 36 s_fixed), (zR gw (h 100) 80 (zRg G))] ++ zPl gw G) ⟨hx, hb, hml, hown, hts⟩ (c_X4_init l gw q20 H.size) ⟨va_cnB 0 hts gX0_keep_X4_init_n21 rfl rfl rfl (hK.2.2 (RX0, 21, yX4_init, RX8) (by decide +kernel)) (hts (.initialized RX4) (by decide +kernel)) (by decide +kernel) ⟨Nat.le_of_ble_eq_true rfl, Nat.le_of_ble_eq_true rfl⟩, rfl, (hts (.instanceMethod yX4_init) (by decide +kernel))⟩ hK (fun _ _ => trivial) (fun _ _ _ _ h => h) hP hD hS hA hs1 rfl hl.1 (Nat.le_of_ble_eq_true rfl) dX0_keep_24 ⟨Nat.le_of_ble_eq_true rfl, Nat.le_of_ble_eq_true rfl⟩ rfl (fun w24 H locs hw24 hP hD hS => ?_)
    obtain ⟨q7, q15, q23, rfl⟩ := hw24
    obtain ⟨g, eg⟩ : ∃ z : zS, z = ((q20, q7, q15, q23), zS0) := ⟨_, rfl⟩
    have hs3 : zAr (([(zOX0 h a_next a_kept), (zOX4 h s_length), (zA gw (h 501) 36 s_letters), (zA gw (h 502) 36 s_breaks), (zA gw (h 503) 36 s_fixed), (zR gw (h 100) 80 (zRg G))] ++ zPl gw G) ++ [(q20, .inr (4, [.int (zi 0), .ref q7, .ref q15, .ref q23])), (zA gw q7 36 (fun _ => 0)), (zA gw q15 36 (fun _ => 0)), (zA gw q23 36 (fun _ => 0))]) ([(zOX0 h a_next a_kept), (zOX4 h s_length), (zA gw (h 501) 36 s_letters), (zA gw (h 502) 36 s_breaks), (zA gw (h 503) 36 s_fixed), (zR gw (h 100) 80 (zRg G))] ++ zPl gw (G ++ [g])) := by
      rw [zPl_app, zPl_cons, eg]
      exact (zAr.eq (List.append_assoc _ _ _)).trans (zAr.eq (by simp [zPl]))
    have hP := hs3.1 _ _ _ hP
    have hD := hs3.2 _ hD
    clear hs1 hs3
    refine W.eq (g2 := F0 m 27 ls [.ref q20, .int (zi a_next), .ref (h 100)]) rfl ?_
    obtain ⟨k, hk9⟩ : ∃ k : Nat, ([(zOX0 h a_next a_kept), (zOX4 h s_length), (zA gw (h 501) 36 s_letters), (zA gw (h 502) 36 s_breaks), (zA gw (h 503) 36 s_fixed), (zR gw (h 100) 80 (zRg G))] ++ zPl gw (G ++ [g]))[k]? = some (q20, .inr (4, [.int (zi 0), .ref q7, .ref q15, .ref q23])) := by
      apply List.getElem?_of_mem
      rw [zPl_app, zPl_cons, eg]
      simp
    refine z_aast hx hb hK hP hD hS 5 k (f' := zRg (G ++ [g])) rfl hk9 hn (by decide) (by rw [hlen, ← zRg_push, eg]) dX0_keep_27 (fun H locs hP hD hS => ?_)
    have hP : va_P gw.1 vwCl ([(zOX0 h a_next a_kept), (zOX4 h s_length), (zA gw (h 501) 36 s_letters), (zA gw (h 502) 36 s_breaks), (zA gw (h 503) 36 s_fixed), (zR gw (h 100) 80 (zRg (G ++ [g])))] ++ zPl gw (G ++ [g])) H := hP
    have hD : va_D A ([(zOX0 h a_next a_kept), (zOX4 h s_length), (zA gw (h 501) 36 s_letters), (zA gw (h 502) 36 s_breaks), (zA gw (h 503) 36 s_fixed), (zR gw (h 100) 80 (zRg (G ++ [g])))] ++ zPl gw (G ++ [g])) := hD
    have hg : (G ++ [g])[a_next.toNat]? = some g := by rw [hlen]; simp
    have ez : zKeep (G.map Prod.snd) a_next.toNat (s_length, s_letters, s_breaks, s_fixed) = ((G ++ [g]).map Prod.snd).set a_next.toNat (zCopy g.2 (s_length, s_letters, s_breaks, s_fixed)) := by
      unfold zKeep
      rw [if_neg (by rw [List.length_map]; exact hlt), hlen, eg, List.map_append, List.set_append_right _ _ (by simp)]
      simp
    rw [ez]
    exact w_X0_keep_28 F h a_next a_kept s_length s_letters s_breaks s_fixed (G ++ [g]) g hg hn hk (Nat.le_of_ble_eq_true rfl) (Nat.le_of_ble_eq_true rfl) _ _ ls hP hD hS hl
set_option maxHeartbeats 4000000 in
set_option maxRecDepth 100000 in
theorem c_X0_undo0 (l : Launch) (gw : zG) (h : Nat → Nat) (a_next a_kept : Int) (s_length : Int) (s_letters s_breaks s_fixed : Nat → Int) (G : List zS) (hk : a_kept = 0) (sz : Nat) : Met l yX0_undo wsX0_undo rmX0_undo (va_Pc [.ref (h 0), .ref (h 4)] (zPre gw ([(zOX0 h a_next a_kept), (zOX4 h s_length), (zA gw (h 501) 36 s_letters), (zA gw (h 502) 36 s_breaks), (zA gw (h 503) 36 s_fixed), (zR gw (h 100) 80 (zRg G))] ++ zPl gw G) sz)) (zQp gw (fun v w => v = some (.int (zi 0)) ∧ ∃ G' : List zS, G'.map Prod.snd = G.map Prod.snd ∧ w = [(zOX0 h a_next a_kept), (zOX4 h s_length), (zA gw (h 501) 36 s_letters), (zA gw (h 502) 36 s_breaks), (zA gw (h 503) 36 s_fixed), (zR gw (h 100) 80 (zRg G'))] ++ zPl gw G') (va_A ([(zOX0 h a_next a_kept), (zOX4 h s_length), (zA gw (h 501) 36 s_letters), (zA gw (h 502) 36 s_breaks), (zA gw (h 503) 36 s_fixed), (zR gw (h 100) 80 (zRg G))] ++ zPl gw G) sz)) 0 0 (va_A ([(zOX0 h a_next a_kept), (zOX4 h s_length), (zA gw (h 501) 36 s_letters), (zA gw (h 502) 36 s_breaks), (zA gw (h 503) 36 s_fixed), (zR gw (h 100) 80 (zRg G))] ++ zPl gw G) sz) := by
  subst hk
  refine z_metP (lv := [(0, .ref (h 0)), (1, .ref (h 4))]) (by decide) rfl (Nat.le_of_ble_eq_true rfl) rfl (fun p e s m args below meth c A F hsz ls hl hP hD => ?_)
  obtain ⟨hx, hb, hml, hr, hown, hts, hlk, hK, hA, hnm⟩ := id F
  have hown : s.vm.findClass RX0 = some m.cls := hown
  have hS : va_S A s.heap s.heap [] := va_S.rf
  refine lv_aload_n hx hb dX0_undo_0 rfl (lv_at hl 0 rfl) ?_
  refine va_get (D := gw.1) (ci := 0) (v := .int (zi 0)) (C := RX0) (T := TX0) (N := 3) hx hb hts iX0_undo_X0 hown hK.1 hP 0 rfl rfl 2 (by decide) (hts (.fieldLink RX0 26 "SoundLine$Acts" "kept" "I") (by decide +kernel)) (fun _ h9 => h9) rfl dX0_undo_1 ?_
  refine z_if_ne (tgt := 9) hx hb (by decide) dX0_undo_4 (by decide) (fun z => absurd rfl z) (fun _ => ?_)
  refine lv_iconst (v := zi 0) hx hb dX0_undo_7 rfl ?_
  exact z_zretP hx hb hr hlk hP hD hS ⟨rfl, G, rfl, rfl⟩ (Nat.le_refl _) (Nat.le_refl _) (Or.inl rfl) dX0_undo_8
set_option maxHeartbeats 4000000 in
set_option maxRecDepth 100000 in
theorem c_X0_undo1 (l : Launch) (gw : zG) (h : Nat → Nat) (a_next a_kept : Int) (s_length : Int) (s_letters s_breaks s_fixed : Nat → Int) (G : List zS) (g : zS) (hg : G[((Int.tmod (a_next + 80 - 1) 80)).toNat]? = some g) (hn : 0 ≤ a_next ∧ a_next < 80) (hk : 0 < a_kept ∧ a_kept ≤ 80) (sz : Nat) : Met l yX0_undo wsX0_undo rmX0_undo (va_Pc [.ref (h 0), .ref (h 4)] (zPre gw ([(zOX0 h a_next a_kept), (zOX4 h s_length), (zA gw (h 501) 36 s_letters), (zA gw (h 502) 36 s_breaks), (zA gw (h 503) 36 s_fixed), (zR gw (h 100) 80 (zRg G))] ++ zPl gw G) sz)) (zQp gw (fun v w => v = some (.int (zi 1)) ∧ ∃ G' : List zS, G'.map Prod.snd = G.map Prod.snd ∧ w = [(zOX0 h (Int.tmod (a_next + 80 - 1) 80) (a_kept - 1)), (zOX4 h g.2.1), (zA gw (h 501) 36 (zcp g.2.2.1 s_letters 0 0 36)), (zA gw (h 502) 36 (zcp g.2.2.2.1 s_breaks 0 0 36)), (zA gw (h 503) 36 (zcp g.2.2.2.2 s_fixed 0 0 36)), (zR gw (h 100) 80 (zRg G'))] ++ zPl gw G') (va_A ([(zOX0 h a_next a_kept), (zOX4 h s_length), (zA gw (h 501) 36 s_letters), (zA gw (h 502) 36 s_breaks), (zA gw (h 503) 36 s_fixed), (zR gw (h 100) 80 (zRg G))] ++ zPl gw G) sz)) 0 0 (va_A ([(zOX0 h a_next a_kept), (zOX4 h s_length), (zA gw (h 501) 36 s_letters), (zA gw (h 502) 36 s_breaks), (zA gw (h 503) 36 s_fixed), (zR gw (h 100) 80 (zRg G))] ++ zPl gw G) sz) := by
  refine z_metP (lv := [(0, .ref (h 0)), (1, .ref (h 4))]) (by decide) rfl (Nat.le_of_ble_eq_true rfl) rfl (fun p e s m args below meth c A F hsz ls hl hP hD => ?_)
  obtain ⟨hx, hb, hml, hr, hown, hts, hlk, hK, hA, hnm⟩ := id F
  have hown : s.vm.findClass RX0 = some m.cls := hown
  have hS : va_S A s.heap s.heap [] := va_S.rf
  refine lv_aload_n hx hb dX0_undo_0 rfl (lv_at hl 0 rfl) ?_
  refine va_get (D := gw.1) (ci := 0) (v := .int (zi a_kept)) (C := RX0) (T := TX0) (N := 3) hx hb hts iX0_undo_X0 hown hK.1 hP 0 rfl rfl 2 (by decide) (hts (.fieldLink RX0 26 "SoundLine$Acts" "kept" "I") (by decide +kernel)) (fun _ h9 => h9) rfl dX0_undo_1 ?_
  refine z_if_ne (tgt := 9) hx hb ⟨by omega, by omega⟩ dX0_undo_4 (by decide) (fun _ => ?_) (fun z => by omega)
  refine lv_aload_n hx hb dX0_undo_9 rfl (lv_at hl 0 rfl) ?_
  refine lv_aload_n hx hb dX0_undo_10 rfl (lv_at hl 0 rfl) ?_
  refine va_get (D := gw.1) (ci := 0) (v := .int (zi a_next)) (C := RX0) (T := TX0) (N := 3) hx hb hts iX0_undo_X0 hown hK.1 hP 0 rfl rfl 1 (by decide) (hts (.fieldLink RX0 17 "SoundLine$Acts" "next" "I") (by decide +kernel)) (fun _ h9 => h9) rfl dX0_undo_11 ?_
  refine lv_bipush (v := zi 80) hx hb dX0_undo_14 (by decide) ?_
  refine z_iadd hx hb dX0_undo_16 ?_
  refine lv_iconst (v := zi 1) hx hb dX0_undo_17 rfl ?_
  refine z_isub hx hb dX0_undo_18 ?_
  refine lv_bipush (v := zi 80) hx hb dX0_undo_19 (by decide) ?_
  refine z_irem hx hb ⟨⟨by omega, by omega⟩, by decide, by decide⟩ dX0_undo_21 ?_
  have hr2 : 0 ≤ (Int.tmod (a_next + 80 - 1) 80) ∧ (Int.tmod (a_next + 80 - 1) 80) < 80 := ⟨Int.tmod_nonneg _ (by omega), Int.tmod_lt_of_pos _ (by decide)⟩
  obtain ⟨n2, en2⟩ : ∃ z : Int, z = (Int.tmod (a_next + 80 - 1) 80) := ⟨_, rfl⟩
  rw [← en2] at hr2 hg ⊢
  refine va_put (D := gw.1) (ci := 0) (v := .int (zi n2)) (ty := .int) (C := RX0) (T := TX0) (N := 3) hx hb hts iX0_undo_X0 tyX0 tyX0_ok nmX0 hown hK.1 hP hD hS 0 rfl rfl 1 (by decide) (hts (.fieldLink RX0 17 "SoundLine$Acts" "next" "I") (by decide +kernel)) (fun _ h9 => h9) rfl (by decide +kernel) rfl rfl (Nat.le_of_ble_eq_true rfl) dX0_undo_22 (fun H locs hP hD hS => ?_)
  have hP : va_P gw.1 vwCl ([(zOX0 h n2 a_kept), (zOX4 h s_length), (zA gw (h 501) 36 s_letters), (zA gw (h 502) 36 s_breaks), (zA gw (h 503) 36 s_fixed), (zR gw (h 100) 80 (zRg G))] ++ zPl gw G) H := hP
  have hD : va_D A ([(zOX0 h n2 a_kept), (zOX4 h s_length), (zA gw (h 501) 36 s_letters), (zA gw (h 502) 36 s_breaks), (zA gw (h 503) 36 s_fixed), (zR gw (h 100) 80 (zRg G))] ++ zPl gw G) := hD
  refine lv_aload_n hx hb dX0_undo_25 rfl (lv_at hl 0 rfl) ?_
  refine lv_dup hx hb dX0_undo_26 rfl ?_
  refine va_get (D := gw.1) (ci := 0) (v := .int (zi a_kept)) (C := RX0) (T := TX0) (N := 3) hx hb hts iX0_undo_X0 hown hK.1 hP 0 rfl rfl 2 (by decide) (hts (.fieldLink RX0 26 "SoundLine$Acts" "kept" "I") (by decide +kernel)) (fun _ h9 => h9) rfl dX0_undo_27 ?_
  refine lv_iconst (v := zi 1) hx hb dX0_undo_30 rfl ?_
  refine z_isub hx hb dX0_undo_31 ?_
  refine va_put (D := gw.1) (ci := 0) (v := .int (zi (a_kept - 1))) (ty := .int) (C := RX0) (T := TX0) (N := 3) hx hb hts iX0_undo_X0 tyX0 tyX0_ok nmX0 hown hK.1 hP hD hS 0 rfl rfl 2 (by decide) (hts (.fieldLink RX0 26 "SoundLine$Acts" "kept" "I") (by decide +kernel)) (fun _ h9 => h9) rfl (by decide +kernel) rfl rfl (Nat.le_of_ble_eq_true rfl) dX0_undo_32 (fun H locs hP hD hS => ?_)
  have hP : va_P gw.1 vwCl ([(zOX0 h n2 (a_kept - 1)), (zOX4 h s_length), (zA gw (h 501) 36 s_letters), (zA gw (h 502) 36 s_breaks), (zA gw (h 503) 36 s_fixed), (zR gw (h 100) 80 (zRg G))] ++ zPl gw G) H := hP
  have hD : va_D A ([(zOX0 h n2 (a_kept - 1)), (zOX4 h s_length), (zA gw (h 501) 36 s_letters), (zA gw (h 502) 36 s_breaks), (zA gw (h 503) 36 s_fixed), (zR gw (h 100) 80 (zRg G))] ++ zPl gw G) := hD
  refine lv_aload_n hx hb dX0_undo_35 rfl (lv_at hl 0 rfl) ?_
  refine va_get (D := gw.1) (ci := 0) (v := .ref (h 100)) (C := RX0) (T := TX0) (N := 3) hx hb hts iX0_undo_X0 hown hK.1 hP 0 rfl rfl 0 (by decide) (hts (.fieldLink RX0 11 "SoundLine$Acts" "ring" "[LSoundLine$Sheet;") (by decide +kernel)) (fun _ h9 => h9) rfl dX0_undo_36 ?_
  refine lv_aload_n hx hb dX0_undo_39 rfl (lv_at hl 0 rfl) ?_
  refine va_get (D := gw.1) (ci := 0) (v := .int (zi n2)) (C := RX0) (T := TX0) (N := 3) hx hb hts iX0_undo_X0 hown hK.1 hP 0 rfl rfl 1 (by decide) (hts (.fieldLink RX0 17 "SoundLine$Acts" "next" "I") (by decide +kernel)) (fun _ h9 => h9) rfl dX0_undo_40 ?_
  refine z_aald hx hb hK hP 5 rfl hr2 (by decide) (zRg_at hg) dX0_undo_43 ?_
  refine lv_ifnonnull (tgt := 49) hx hb dX0_undo_44 (by decide) ?_
  refine lv_aload_n hx hb dX0_undo_49 rfl (lv_at hl 1 rfl) ?_
  refine lv_aload_n hx hb dX0_undo_50 rfl (lv_at hl 0 rfl) ?_
  refine va_get (D := gw.1) (ci := 0) (v := .ref (h 100)) (C := RX0) (T := TX0) (N := 3) hx hb hts iX0_undo_X0 hown hK.1 hP 0 rfl rfl 0 (by decide) (hts (.fieldLink RX0 11 "SoundLine$Acts" "ring" "[LSoundLine$Sheet;") (by decide +kernel)) (fun _ h9 => h9) rfl dX0_undo_51 ?_
  refine lv_aload_n hx hb dX0_undo_54 rfl (lv_at hl 0 rfl) ?_
  refine va_get (D := gw.1) (ci := 0) (v := .int (zi n2)) (C := RX0) (T := TX0) (N := 3) hx hb hts iX0_undo_X0 hown hK.1 hP 0 rfl rfl 1 (by decide) (hts (.fieldLink RX0 17 "SoundLine$Acts" "next" "I") (by decide +kernel)) (fun _ h9 => h9) rfl dX0_undo_55 ?_
  refine z_aald hx hb hK hP 5 rfl hr2 (by decide) (zRg_at hg) dX0_undo_58 ?_
  have hs1 : zAr ([(zOX0 h n2 (a_kept - 1)), (zOX4 h s_length), (zA gw (h 501) 36 s_letters), (zA gw (h 502) 36 s_breaks), (zA gw (h 503) 36 s_fixed), (zR gw (h 100) 80 (zRg G))] ++ zPl gw G) ([(zOX4 h s_length), (zSo g), (zA gw (h 501) 36 s_letters), (zA gw (h 502) 36 s_breaks), (zA gw (h 503) 36 s_fixed), (zA gw g.1.2.1 36 g.2.2.1), (zA gw g.1.2.2.1 36 g.2.2.2.1), (zA gw g.1.2.2.2 36 g.2.2.2.2)] ++ ([(zOX0 h n2 (a_kept - 1)), (zR gw (h 100) 80 (zRg G))] ++ zPl gw (G.take n2.toNat ++ G.drop (n2.toNat + 1)))) := ((zPl_out gw hg).head.trans (zAr.eq (List.append_assoc _ _ _).symm)).trans (z_tl1 (zAr.of [1, 6, 2, 3, 4, 7, 8, 9, 0, 5] (by decide) rfl))
  have hs2 : zAr (([(zOX0 h n2 (a_kept - 1)), (zR gw (h 100) 80 (zRg G))] ++ zPl gw (G.take n2.toNat ++ G.drop (n2.toNat + 1))) ++ [(zOX4 h g.2.1), (zSo g), (zA gw (h 501) 36 (zcp g.2.2.1 s_letters 0 0 36)), (zA gw (h 502) 36 (zcp g.2.2.2.1 s_breaks 0 0 36)), (zA gw (h 503) 36 (zcp g.2.2.2.2 s_fixed 0 0 36)), (zA gw g.1.2.1 36 g.2.2.1), (zA gw g.1.2.2.1 36 g.2.2.2.1), (zA gw g.1.2.2.2 36 g.2.2.2.2)]) ([(zOX0 h n2 (a_kept - 1)), (zOX4 h g.2.1), (zA gw (h 501) 36 (zcp g.2.2.1 s_letters 0 0 36)), (zA gw (h 502) 36 (zcp g.2.2.2.1 s_breaks 0 0 36)), (zA gw (h 503) 36 (zcp g.2.2.2.2 s_fixed 0 0 36)), (zR gw (h 100) 80 (zRg G))] ++ zPl gw G) := by
    have h9 := ((z_tl2 (wr := [(zOX0 h n2 (a_kept - 1)), (zR gw (h 100) 80 (zRg G))]) (pl := zPl gw (G.take n2.toNat ++ G.drop (n2.toNat + 1))) (w1 := [(zOX4 h g.2.1), (zSo g), (zA gw (h 501) 36 (zcp g.2.2.1 s_letters 0 0 36)), (zA gw (h 502) 36 (zcp g.2.2.2.1 s_breaks 0 0 36)), (zA gw (h 503) 36 (zcp g.2.2.2.2 s_fixed 0 0 36)), (zA gw g.1.2.1 36 g.2.2.1), (zA gw g.1.2.2.1 36 g.2.2.2.1), (zA gw g.1.2.2.2 36 g.2.2.2.2)]) (zAr.of (ws' := [(zOX0 h n2 (a_kept - 1)), (zOX4 h g.2.1), (zA gw (h 501) 36 (zcp g.2.2.1 s_letters 0 0 36)), (zA gw (h 502) 36 (zcp g.2.2.2.1 s_breaks 0 0 36)), (zA gw (h 503) 36 (zcp g.2.2.2.2 s_fixed 0 0 36)), (zR gw (h 100) 80 (zRg G))] ++ zSc gw g) [0, 2, 4, 5, 6, 1, 3, 7, 8, 9] (by decide) rfl)).trans (zAr.eq (List.append_assoc _ _ _))).trans (zPl_in gw (g2 := g) hg).head
    rw [show G.set n2.toNat g = G by obtain ⟨hk1, he1⟩ := List.getElem?_eq_some_iff.mp hg; rw [← he1]; exact List.set_getElem_self hk1] at h9
    exact h9
  refine z_callVNA (As := [.ref g.1.1]) (rest := []) (v := none) (wc := [(zOX4 h s_length), (zSo g), (zA gw (h 501) 36 s_letters), (zA gw (h 502) 36 s_breaks), (zA gw (h 503) 36 s_fixed), (zA gw g.1.2.1 36 g.2.2.1), (zA gw g.1.2.2.1 36 g.2.2.2.1), (zA gw g.1.2.2.2 36 g.2.2.2.2)]) (w1 := [(zOX4 h g.2.1), (zSo g), (zA gw (h 501) 36 (zcp g.2.2.1 s_letters 0 0 36)), (zA gw (h 502) 36 (zcp g.2.2.2.1 s_breaks 0 0 36)), (zA gw (h 503) 36 (zcp g.2.2.2.2 s_fixed 0 0 36)), (zA gw g.1.2.1 36 g.2.2.1), (zA gw g.1.2.2.1 36 g.2.2.2.1), (zA gw g.1.2.2.2 36 g.2.2.2.2)]) ⟨hx, hb, hml, hown, hts⟩ (c_X4_copyFrom l gw (zlk [(4, h 4), (501, h 501), (502, h 502), (503, h 503), (10, g.1.1), (11, g.1.2.1), (12, g.1.2.2.1), (13, g.1.2.2.2)]) s_length s_letters s_breaks s_fixed g.2.1 g.2.2.1 g.2.2.2.1 g.2.2.2.2 _ (m_copy (s_length, s_letters, s_breaks, s_fixed) g.2) H.size) ⟨va_cnB 1 hts gX0_undo_X4_copyFrom_n22 rfl rfl rfl (hK.2.2 (RX0, 22, yX4_copyFrom, RX8) (by decide +kernel)) (hts (.initialized RX4) (by decide +kernel)) (by decide +kernel) ⟨Nat.le_of_ble_eq_true rfl, Nat.le_of_ble_eq_true rfl⟩, (hts (.instanceMethod yX4_copyFrom) (by decide +kernel)), (hts (.selects RX4 yX4_copyFrom yX4_copyFrom) (by decide +kernel))⟩ hK hP hD hS hA hs1 hs2 0 4 rfl rfl rfl rfl hl.1 (Nat.le_of_ble_eq_true rfl) dX0_undo_59 ⟨Nat.le_of_ble_eq_true rfl, Nat.le_of_ble_eq_true rfl⟩ rfl (fun H locs hP hD hS => ?_)
  refine W.eq (g2 := F0 m 62 ls []) rfl ?_
  refine lv_iconst (v := zi 1) hx hb dX0_undo_62 rfl ?_
  exact z_zretP hx hb hr hlk hP hD hS ⟨rfl, G, rfl, rfl⟩ (Nat.le_refl _) (Nat.le_refl _) (Or.inr rfl) dX0_undo_63
end
def m_X0_keep (a_ring : List zSv) (a_next a_kept : Int) (s_length : Int) (s_letters s_breaks s_fixed : Nat → Int) : Option (List zSv × Int × Int) :=
  gd (0 ≤ a_next ∧ a_next < 80) <|
  gd (a_next ≤ (a_ring.length : Int)) <|
  gd (0 ≤ a_kept ∧ a_kept ≤ 80) <|
  some (zKeep a_ring a_next.toNat (s_length, s_letters, s_breaks, s_fixed), Int.tmod (a_next + 1) 80, min (a_kept + 1) 80)
def m_X0_undo (a_ring : List zSv) (a_next a_kept : Int) (s_length : Int) (s_letters s_breaks s_fixed : Nat → Int) : Option (Int × Int × Int × Int × (Nat → Int) × (Nat → Int) × (Nat → Int)) :=
  if a_kept = 0 then
    some (0, a_next, a_kept, s_length, s_letters, s_breaks, s_fixed)
  else
    gd (0 ≤ a_next ∧ a_next < 80) <|
    gd (0 < a_kept ∧ a_kept ≤ 80) <|
    (a_ring[(Int.tmod (a_next + 80 - 1) 80).toNat]?).bind fun g =>
    some (1, Int.tmod (a_next + 80 - 1) 80, a_kept - 1, g.1, zcp g.2.1 s_letters 0 0 36, zcp g.2.2.1 s_breaks 0 0 36, zcp g.2.2.2 s_fixed 0 0 36)
theorem c_X0_keep (l : Launch) (gw : zG) (h : Nat → Nat) (G : List zS) (a_next a_kept : Int) (s_length : Int) (s_letters s_breaks s_fixed : Nat → Int) (u : List zSv × Int × Int) (hm : m_X0_keep (G.map Prod.snd) a_next a_kept s_length s_letters s_breaks s_fixed = some u) (sz : Nat) : Met l yX0_keep wsX0_keep rmX0_keep (va_Pc [.ref (h 0), .ref (h 4)] (zPre gw ([(zOX0 h a_next a_kept), (zOX4 h s_length), (zA gw (h 501) 36 s_letters), (zA gw (h 502) 36 s_breaks), (zA gw (h 503) 36 s_fixed), (zR gw (h 100) 80 (zRg G))] ++ zPl gw G) sz)) (zQp gw (fun v w => v = none ∧ ∃ G' : List zS, G'.map Prod.snd = u.1 ∧ w = [(zOX0 h u.2.1 u.2.2), (zOX4 h s_length), (zA gw (h 501) 36 s_letters), (zA gw (h 502) 36 s_breaks), (zA gw (h 503) 36 s_fixed), (zR gw (h 100) 80 (zRg G'))] ++ zPl gw G') (va_A ([(zOX0 h a_next a_kept), (zOX4 h s_length), (zA gw (h 501) 36 s_letters), (zA gw (h 502) 36 s_breaks), (zA gw (h 503) 36 s_fixed), (zR gw (h 100) 80 (zRg G))] ++ zPl gw G) sz)) 4 112 (va_A ([(zOX0 h a_next a_kept), (zOX4 h s_length), (zA gw (h 501) 36 s_letters), (zA gw (h 502) 36 s_breaks), (zA gw (h 503) 36 s_fixed), (zR gw (h 100) 80 (zRg G))] ++ zPl gw G) sz) := by
  unfold m_X0_keep at hm
  obtain ⟨g1, hm⟩ := gd_e hm
  obtain ⟨g2, hm⟩ := gd_e hm
  obtain ⟨g3, hm⟩ := gd_e hm
  cases hm
  rw [List.length_map] at g2
  exact c_X0_keep0 l gw h a_next a_kept s_length s_letters s_breaks s_fixed G g1 g2 g3 sz
theorem c_X0_undo (l : Launch) (gw : zG) (h : Nat → Nat) (G : List zS) (a_next a_kept : Int) (s_length : Int) (s_letters s_breaks s_fixed : Nat → Int) (u : Int × Int × Int × Int × (Nat → Int) × (Nat → Int) × (Nat → Int)) (hm : m_X0_undo (G.map Prod.snd) a_next a_kept s_length s_letters s_breaks s_fixed = some u) (sz : Nat) : Met l yX0_undo wsX0_undo rmX0_undo (va_Pc [.ref (h 0), .ref (h 4)] (zPre gw ([(zOX0 h a_next a_kept), (zOX4 h s_length), (zA gw (h 501) 36 s_letters), (zA gw (h 502) 36 s_breaks), (zA gw (h 503) 36 s_fixed), (zR gw (h 100) 80 (zRg G))] ++ zPl gw G) sz)) (zQp gw (fun v w => v = some (.int (zi u.1)) ∧ ∃ G' : List zS, G'.map Prod.snd = G.map Prod.snd ∧ w = [(zOX0 h u.2.1 u.2.2.1), (zOX4 h u.2.2.2.1), (zA gw (h 501) 36 u.2.2.2.2.1), (zA gw (h 502) 36 u.2.2.2.2.2.1), (zA gw (h 503) 36 u.2.2.2.2.2.2), (zR gw (h 100) 80 (zRg G'))] ++ zPl gw G') (va_A ([(zOX0 h a_next a_kept), (zOX4 h s_length), (zA gw (h 501) 36 s_letters), (zA gw (h 502) 36 s_breaks), (zA gw (h 503) 36 s_fixed), (zR gw (h 100) 80 (zRg G))] ++ zPl gw G) sz)) 0 0 (va_A ([(zOX0 h a_next a_kept), (zOX4 h s_length), (zA gw (h 501) 36 s_letters), (zA gw (h 502) 36 s_breaks), (zA gw (h 503) 36 s_fixed), (zR gw (h 100) 80 (zRg G))] ++ zPl gw G) sz) := by
  unfold m_X0_undo at hm
  by_cases hk : a_kept = 0
  · have hm := if_p hm hk
    cases hm
    exact c_X0_undo0 l gw h a_next a_kept s_length s_letters s_breaks s_fixed G hk sz
  · have hm := if_n hm hk
    obtain ⟨g1, hm⟩ := gd_e hm
    obtain ⟨g2, hm⟩ := gd_e hm
    obtain ⟨v, hv, hm⟩ := bd_e hm
    cases hm
    rw [List.getElem?_map] at hv
    obtain ⟨g, hg, rfl⟩ := Option.map_eq_some_iff.mp hv
    exact c_X0_undo1 l gw h a_next a_kept s_length s_letters s_breaks s_fixed G g hg g1 g2 sz
