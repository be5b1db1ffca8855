/-! the acts' ring: sheets that are made as they are wanted -/
abbrev zSv : Type := Int × (Nat → Int) × (Nat → Int) × (Nat → Int)
abbrev zS : Type := (Nat × Nat × Nat × Nat) × zSv
abbrev zSo (g : zS) : Nat × va_E := (g.1.1, .inr (4, [.int (zi g.2.1), .ref g.1.2.1, .ref g.1.2.2.1, .ref g.1.2.2.2]))
abbrev zSc (gw : zG) (g : zS) : va_W := [zSo g, zA gw g.1.2.1 36 g.2.2.1, zA gw g.1.2.2.1 36 g.2.2.2.1, zA gw g.1.2.2.2 36 g.2.2.2.2]
def zPl (gw : zG) (G : List zS) : va_W := G.flatMap (zSc gw)
def zRg (G : List zS) : Nat → Option Nat := fun k => (G[k]?).map (fun g => g.1.1)
/-- a sheet a that is copied over from b -/
def zCopy (a b : zSv) : zSv := (b.1, zcp b.2.1 a.2.1 0 0 36, zcp b.2.2.1 a.2.2.1 0 0 36, zcp b.2.2.2 a.2.2.2 0 0 36)
abbrev zS0 : zSv := (0, fun _ => 0, fun _ => 0, fun _ => 0)
/-- the ring's sheets when v is kept at k -/
def zKeep (Rv : List zSv) (k : Nat) (v : zSv) : List zSv := if k < Rv.length then Rv.set k (zCopy (Rv.getD k zS0) v) else Rv ++ [zCopy zS0 v]
theorem m_copy (a b : zSv) : m_X4_copyFrom a.1 a.2.1 a.2.2.1 a.2.2.2 b.1 b.2.1 b.2.2.1 b.2.2.2 = some (zCopy a b) := rfl
theorem zPl_app (gw : zG) (A B : List zS) : zPl gw (A ++ B) = zPl gw A ++ zPl gw B := List.flatMap_append ..
theorem zPl_cons (gw : zG) (g : zS) (B : List zS) : zPl gw (g :: B) = zSc gw g ++ zPl gw B := List.flatMap_cons ..
theorem zG_split {G : List zS} {k : Nat} {g : zS} (h : G[k]? = some g) : G = G.take k ++ g :: G.drop (k + 1) := by
  obtain ⟨hk, he⟩ := List.getElem?_eq_some_iff.mp h
  rw [← he, List.getElem_cons_drop hk, List.take_append_drop]
theorem zG_set {G : List zS} {k : Nat} {g g2 : zS} (h : G[k]? = some g) : G.set k g2 = G.take k ++ g2 :: G.drop (k + 1) := by
  obtain ⟨hk, he⟩ := List.getElem?_eq_some_iff.mp h
  exact List.set_eq_take_append_cons_drop.trans (by simp [hk])
theorem zPl_out (gw : zG) {G : List zS} {k : Nat} {g : zS} (h : G[k]? = some g) : zAr (zPl gw G) (zSc gw g ++ zPl gw (G.take k ++ G.drop (k + 1))) := by
  have e : zPl gw G = zPl gw (G.take k) ++ (zSc gw g ++ zPl gw (G.drop (k + 1))) := by
    rw [← zPl_cons, ← zPl_app, ← zG_split h]
  rw [e, zPl_app]
  refine (zAr.eq (List.append_assoc _ _ _).symm).trans ?_
  refine (zAr.tail zAr.swap).trans ?_
  exact zAr.eq (List.append_assoc _ _ _)
theorem zPl_in (gw : zG) {G : List zS} {k : Nat} {g g2 : zS} (h : G[k]? = some g) : zAr (zSc gw g2 ++ zPl gw (G.take k ++ G.drop (k + 1))) (zPl gw (G.set k g2)) := by
  have e : zPl gw (G.set k g2) = zPl gw (G.take k) ++ (zSc gw g2 ++ zPl gw (G.drop (k + 1))) := by
    rw [← zPl_cons, ← zPl_app, ← zG_set h]
  rw [e, zPl_app]
  refine (zAr.eq (List.append_assoc _ _ _).symm).trans ?_
  refine (zAr.tail zAr.swap).trans ?_
  exact zAr.eq (List.append_assoc _ _ _)
theorem zRg_at {G : List zS} {k : Nat} {g : zS} (h : G[k]? = some g) : zRg G k = some g.1.1 := by unfold zRg; rw [h]; rfl
theorem zRg_set {G : List zS} {k : Nat} {g g2 : zS} (h : G[k]? = some g) (e : g2.1 = g.1) : zRg (G.set k g2) = zRg G := by
  funext j
  unfold zRg
  rw [List.getElem?_set]
  by_cases hj : k = j
  · subst hj
    rw [if_pos rfl, if_pos (List.getElem?_eq_some_iff.mp h).1, h]
    simp [e]
  · rw [if_neg hj]
theorem zRg_push {G : List zS} {g : zS} : va_up (zRg G) G.length (some g.1.1) = zRg (G ++ [g]) := by
  funext j
  unfold va_up zRg
  by_cases hj : j = G.length
  · subst hj
    simp
  · rw [if_neg hj]
    by_cases h : j < G.length
    · rw [List.getElem?_append_left h]
    · rw [List.getElem?_append_right (by omega), List.getElem?_eq_none (by omega), List.getElem?_eq_none (by simp; omega)]
theorem z_tl1 {X wc wr pl : va_W} (h : zAr X (wc ++ wr)) : zAr (X ++ pl) (wc ++ (wr ++ pl)) := h.tail.trans (zAr.eq (List.append_assoc _ _ _))
theorem z_tl2 {wr pl w1 X : va_W} (h : zAr (wr ++ w1) X) : zAr ((wr ++ pl) ++ w1) (X ++ pl) := by
  refine (zAr.eq (List.append_assoc _ _ _)).trans ((zAr.head zAr.swap).trans ?_)
  exact (zAr.eq (List.append_assoc _ _ _).symm).trans h.tail
section ZPO
variable {p : Program} {l : Launch} {e : Env} {R : Room} {s : State} {m : MethodId} {args : Array Value} {below : List Frame} {meth : Method} {c : Code} {H : Heap} {locs : List Loc} {cells slots : Nat} {Q : State → Prop}
variable {cc : ByteArray} {pc : Nat} {ls : Array Slot} {rest st0 : List Value} {gw : zG} {ws : va_W} {A : Nat → Prop} {own C host : String} {index : Nat}
variable {y : MethodName} {bytes : ByteArray} {maxL nL n : Nat} {ret : Option FieldType} {wy Ts : List Cond} {ry : Room} {b : Addr} {As : List Value} {v : Option Value} {wc wr w1 ws' : va_W}
theorem z_preA {av : List Value} (hK : zK gw s) (hP : va_P gw.1 vwCl ws H) (hD : va_D A ws) (hs : zAr ws (wc ++ wr)) : ∀ U : State, U.heap = H → s.WarmedH U.vm → va_Pc av (zPre gw wc H.size) av.toArray U := by
  intro U hU hW
  refine ⟨rfl, by rw [hU], ?_, ?_, hK.warm hW⟩
  · rw [hU]
    exact zP_iff.mpr (fun q hq => zP_iff.mp (hs.1 _ _ _ hP) q (List.mem_append_left _ hq))
  · exact (zD_app (hs.2 _ hD)).1.weaken (fun _ _ _ _ => trivial)
theorem z_goA {a : Array Value} (hr : va_Run p l e R s m args below meth c H locs cells slots 0 0 (F0 m pc ls st0) rest (zQ gw v w1 (va_A wc H.size) a) (va_A wc H.size)) (hP : va_P gw.1 vwCl ws H) (hD : va_D A ws) (hS : va_S A s.heap H locs) (hA : ∀ q, s.heap.size ≤ q → A q) (hs : zAr ws (wc ++ wr)) (hs2 : zAr (wr ++ w1) ws')
    (kk : ∀ (H1 : Heap) (locs1 : List Loc), va_P gw.1 vwCl ws' H1 → va_D A ws' → va_S A s.heap H1 locs1 → W p l e R s m args below meth c H1 locs1 cells slots Q (F0 m (pc + 3) ls (v.toList ++ rest))) : W p l e R s m args below meth c H locs cells slots Q (F0 m pc ls st0) := by
  intro T hT X
  obtain ⟨v', st₀, t, T', L, h0, X', hL, e1, e2, ⟨⟨hv, hP1, hD1⟩, hz, hk⟩, st⟩ := hr T hT X
  cases hv
  rw [h0] at hz hk
  have hF := z_freeA (hs.2 _ hD) hS hA
  rw [← e1] at hP1
  obtain ⟨hP2, hD2⟩ := zJoin (H1 := T'.heap) (hs.1 _ _ _ hP) (hs.2 _ hD) (fun q h1 h2 => by rw [e1]; exact hk q h1 h2) hF hP1 hD1
  obtain ⟨t2, a1, b1⟩ := kk T'.heap (locs ++ L) (hs2.1 _ _ _ hP2) (hs2.2 _ hD2)
    ⟨Nat.le_trans hS.1 (by rw [e1]; exact hz), fun q h1 h2 => by rw [e1, hk q (Nat.lt_of_lt_of_le h1 hS.1) (fun z => h2 (hF q z))]; exact hS.2.1 q h1 h2, fun q hq => by
      rcases List.mem_append.mp hq with h | h
      · exact hS.2.2 q h
      · exact hF _ (hL q h)⟩ T' rfl X'
  exact ⟨t2, st t2 a1, b1⟩
theorem z_callVNA (S : CallFix p m c cc nL s args Ts own) (hM : Met l y wy ry (va_Pc (.ref b :: As) (zPre gw wc H.size)) (zQ gw v w1 (va_A wc H.size)) 0 0 (va_A wc H.size)) (cw : va_CN R s args own index y host bytes maxL ret wy ry 0 0 n ∧ (Cond.instanceMethod y).before args s = true ∧ (Cond.selects C y y).before args s = true) (hK : zK gw s) (hP : va_P gw.1 vwCl ws H) (hD : va_D A ws) (hS : va_S A s.heap H locs) (hA : ∀ q, s.heap.size ≤ q → A q) (hs : zAr ws (wc ++ wr)) (hs2 : zAr (wr ++ w1) ws')
    (q0 ci : Nat) {fs : List Value} {q : vw_C} (he : (wc ++ wr)[q0]? = some (b, .inr (ci, fs))) (hc : vwCl[ci]? = some q) (hq : q.1 = C) (hlen : As.length = n) (hls : ls.size = nL) (hw : (rest.map fun v => v.category).sum ≤ 8) (hd : decode cc pc = .ok (.invokevirtual index, 3)) (hf : cells ≤ R.cells ∧ slots ≤ R.slots) (hst : st0 = As.reverse ++ .ref b :: rest)
    (kk : ∀ (H1 : Heap) (locs1 : List Loc), va_P gw.1 vwCl ws' H1 → va_D A ws' → va_S A s.heap H1 locs1 → W p l e R s m args below meth c H1 locs1 cells slots Q (F0 m (pc + 3) ls (v.toList ++ rest))) : W p l e R s m args below meth c H locs cells slots Q (F0 m pc ls st0) := by
  subst hq
  exact z_goA (va_runVN (As := As) (rest := rest) S hM cw ⟨z_blind, va_recv hK.1 (hs.1 _ _ _ hP) hc he, z_preA hK hP hD hs⟩ rfl hlen hls hst (lv_room hw) hd hf) hP hD hS hA hs hs2 kk
theorem z_aald (hx : p.tables.exec = Jvm.exec) (hb : c.code = cc) (hK : zK gw s) (hP : va_P gw.1 vwCl ws H) (q0 : Nat) {a n : Nat} {f : Nat → Option Nat} (ha : ws[q0]? = some (zR gw a n f)) {i : Int} (hi : 0 ≤ i ∧ i < (n : Int)) (hn : n ≤ 2147483648) {v : Option Nat} (hv : f i.toNat = v) (hd : decode cc pc = .ok (.aaload, 1))
    (kk : W p l e R s m args below meth c H locs cells slots Q (F0 m (pc + 1) ls (va_rf v :: rest))) : W p l e R s m args below meth c H locs cells slots Q (F0 m pc ls (.int (zi i) :: .ref a :: rest)) := by
  refine va_aldq (C := RX4) hx hb hK.1 hP q0 2 ha rfl (zi_in hi hn) hd ?_
  rw [zi_clamp hi.1 (by omega), hv]
  exact kk
theorem z_aast (hx : p.tables.exec = Jvm.exec) (hb : c.code = cc) (hK : zK gw s) (hP : va_P gw.1 vwCl ws H) (hD : va_D A ws) (hS : va_S A s.heap H locs) (q0 qk : Nat) {a n v : Nat} {vs : List Value} {f f' : Nat → Option Nat} (ha : ws[q0]? = some (zR gw a n f)) (hv : ws[qk]? = some (v, .inr (4, vs))) {i : Int} (hi : 0 ≤ i ∧ i < (n : Int)) (hn : n ≤ 2147483648) (hf : f' = va_up f i.toNat (some v)) (hd : decode cc pc = .ok (.aastore, 1))
    (kk : ∀ (H1 : Heap) (locs1 : List Loc), va_P gw.1 vwCl (ws.set q0 (zR gw a n f')) H1 → va_D A (ws.set q0 (zR gw a n f')) → va_S A s.heap H1 locs1 → W p l e R s m args below meth c H1 locs1 cells slots Q (F0 m (pc + 1) ls rest)) : W p l e R s m args below meth c H locs cells slots Q (F0 m pc ls (.ref v :: .int (zi i) :: .ref a :: rest)) := by
  refine va_astq (r := (RX4, TX4, 4)) hx hb hK.1 hP hD hS q0 2 qk 4 ha rfl hv rfl (zi_in hi hn) hd fun H1 locs1 h1 h2 h3 => ?_
  rw [zi_clamp hi.1 (by omega), ← hf] at h1 h2
  exact kk H1 locs1 h1 h2 h3
end ZPO
