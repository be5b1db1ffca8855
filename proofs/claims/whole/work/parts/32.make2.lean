section ZI
variable {p : Program} {l : Launch} {e : Env} {R : Room} {s : State} {m : MethodId} {args : Array Value} {below : List Frame} {meth : Method} {c : Code} {H : Heap} {locs : List Loc} {cells slots : Nat} {Q : State → Prop}
variable {cc : ByteArray} {pc : Nat} {ls : Array Slot} {rest st0 : List Value} {gw : zG} {ws : va_W} {A : Nat → Prop} {own : String} {index : Nat}
variable {y : MethodName} {bytes : ByteArray} {maxL nL n mc ms : Nat} {wy Ts : List Cond} {ry : Room} {host : String} {b : Addr} {As : List Value} {wc wr : va_W} {Pw : va_W → Prop} {X : State → Prop}
theorem z_preE {av : List Value} (hK : zK gw s) (hX : ∀ U : State, s.WarmedH U.vm → X U) (hP : va_P gw.1 vwCl ws H) (hD : va_D A ws) (hs : zAr ws (wc ++ wr)) : ∀ U : State, U.heap = H → s.WarmedH U.vm → va_Pc av (fun U => zPre gw wc H.size U ∧ X U) av.toArray U := by
  intro U hU hW
  refine ⟨rfl, ⟨by rw [hU], ?_, ?_, hK.warm hW⟩, hX U hW⟩
  · rw [hU]
    exact zP_iff.mpr (fun q hq => zP_iff.mp (hs.1 _ _ _ hP) q (List.mem_append_left _ hq))
  · exact (zD_app (hs.2 _ hD)).1.weaken (fun _ _ _ _ => trivial)
theorem z_blindE {av : List Value} {sz : Nat} (hXc : ∀ (U : State) (g : JFrame) (mk : MethodId) (a : Array Value), X U → X (U.calling g mk a)) : FrameBlind (va_Pc av (fun U => zPre gw wc sz U ∧ X U)) := fun _ U g mk q => ⟨q.1, ⟨q.2.1.1, q.2.1.2.1, q.2.1.2.2.1, zK.call q.2.1.2.2.2⟩, hXc U g mk _ q.2.2⟩
theorem z_goE {a : Array Value} (hr : va_Run p l e R s m args below meth c H locs cells slots mc ms (F0 m pc ls st0) rest (zQe gw Pw (va_A wc H.size) a) (va_A wc H.size)) (hP : va_P gw.1 vwCl ws H) (hD : va_D A ws) (hS : va_S A s.heap H locs) (hA : ∀ q, s.heap.size ≤ q → A q) (hs : zAr ws (wc ++ wr))
    (kk : ∀ (w : va_W) (H1 : Heap) (locs1 : List Loc), Pw w → va_P gw.1 vwCl (wr ++ w) H1 → va_D A (wr ++ w) → va_S A s.heap H1 locs1 → W p l e R s m args below meth c H1 locs1 (cells + mc) (slots + ms) Q (F0 m (pc + 3) ls rest)) : W p l e R s m args below meth c H locs cells slots Q (F0 m pc ls st0) := by
  intro T hT X
  obtain ⟨v', st₀, t, T', L, h0, X', hL, e1, e2, ⟨⟨w, hv, hw, hP1, hD1⟩, hz, hk⟩, st⟩ := hr T hT X
  cases hv
  rw [h0] at hz hk
  have hF := z_freeA (hs.2 _ hD) hS hA
  rw [← e1] at hP1
  obtain ⟨hP2, hD2⟩ := zJoin (H1 := T'.heap) (hs.1 _ _ _ hP) (hs.2 _ hD) (fun q h1 h2 => by rw [e1]; exact hk q h1 h2) hF hP1 hD1
  obtain ⟨t2, a1, b1⟩ := kk w T'.heap (locs ++ L) hw hP2 hD2
    ⟨Nat.le_trans hS.1 (by rw [e1]; exact hz), fun q h1 h2 => by rw [e1, hk q (Nat.lt_of_lt_of_le h1 hS.1) (fun z => h2 (hF q z))]; exact hS.2.1 q h1 h2, fun q hq => by
      rcases List.mem_append.mp hq with h | h
      · exact hS.2.2 q h
      · exact hF _ (hL q h)⟩ T' rfl X'
  exact ⟨t2, st t2 a1, b1⟩
theorem z_callIN (S : CallFix p m c cc nL s args Ts own) (hM : Met l y wy ry (va_Pc (.ref b :: As) (fun U => zPre gw wc H.size U ∧ X U)) (zQe gw Pw (va_A wc H.size)) mc ms (va_A wc H.size)) (cw : va_CN R s args own index y host bytes maxL none wy ry mc ms n ∧ y.name = "<init>" ∧ (Cond.instanceMethod y).before args s = true) (hK : zK gw s) (hX : ∀ U : State, s.WarmedH U.vm → X U) (hXc : ∀ (U : State) (g : JFrame) (mk : MethodId) (a : Array Value), X U → X (U.calling g mk a)) (hP : va_P gw.1 vwCl ws H) (hD : va_D A ws) (hS : va_S A s.heap H locs) (hA : ∀ q, s.heap.size ≤ q → A q) (hs : zAr ws (wc ++ wr))
    (hlen : As.length = n) (hls : ls.size = nL) (hw : (rest.map fun v => v.category).sum ≤ 8) (hd : decode cc pc = .ok (.invokespecial index, 3)) (hf : cells + mc ≤ R.cells ∧ slots + ms ≤ R.slots) (hst : st0 = As.reverse ++ .ref b :: rest)
    (kk : ∀ (w : va_W) (H1 : Heap) (locs1 : List Loc), Pw w → va_P gw.1 vwCl (wr ++ w) H1 → va_D A (wr ++ w) → va_S A s.heap H1 locs1 → W p l e R s m args below meth c H1 locs1 (cells + mc) (slots + ms) Q (F0 m (pc + 3) ls rest)) : W p l e R s m args below meth c H locs cells slots Q (F0 m pc ls st0) :=
  z_goE (va_runIN (As := As) (rest := rest) S hM cw ⟨z_blindE hXc, z_preE hK hX hP hD hs⟩ rfl hlen hls hst (lv_room hw) hd hf) hP hD hS hA hs kk
theorem z_callI (S : CallFix p m c cc nL s args Ts own) (hM : Met l y wy ry (va_Pc (.ref b :: As) (fun U => zPre gw wc H.size U ∧ X U)) (zQe gw Pw (va_A wc H.size)) mc ms (va_A wc H.size)) (cw : CallB R s args own index y bytes maxL none wy ry mc ms n ∧ y.name = "<init>" ∧ (Cond.instanceMethod y).before args s = true) (hK : zK gw s) (hX : ∀ U : State, s.WarmedH U.vm → X U) (hXc : ∀ (U : State) (g : JFrame) (mk : MethodId) (a : Array Value), X U → X (U.calling g mk a)) (hP : va_P gw.1 vwCl ws H) (hD : va_D A ws) (hS : va_S A s.heap H locs) (hA : ∀ q, s.heap.size ≤ q → A q) (hs : zAr ws (wc ++ wr))
    (hlen : As.length = n) (hls : ls.size = nL) (hw : (rest.map fun v => v.category).sum ≤ 8) (hd : decode cc pc = .ok (.invokespecial index, 3)) (hf : cells + mc ≤ R.cells ∧ slots + ms ≤ R.slots) (hst : st0 = As.reverse ++ .ref b :: rest)
    (kk : ∀ (w : va_W) (H1 : Heap) (locs1 : List Loc), Pw w → va_P gw.1 vwCl (wr ++ w) H1 → va_D A (wr ++ w) → va_S A s.heap H1 locs1 → W p l e R s m args below meth c H1 locs1 (cells + mc) (slots + ms) Q (F0 m (pc + 3) ls rest)) : W p l e R s m args below meth c H locs cells slots Q (F0 m pc ls st0) :=
  z_goE (va_runI (As := As) (rest := rest) S hM cw ⟨z_blindE hXc, z_preE hK hX hP hD hs⟩ rfl hlen hls hst (lv_room hw) hd hf) hP hD hS hA hs kk
end ZI
/-- an address by its number -/
def zlk : List (Nat × Nat) → Nat → Nat
  | [], _ => 0
  | q :: l, k => if k = q.1 then q.2 else zlk l k
