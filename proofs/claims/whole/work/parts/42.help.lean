/-! the law's helpers: a call that may throw, caught -/
theorem z_metH {l : Launch} {y : MethodName} {ws ws' : List Cond} {rm : Room} {cc : ByteArray} {maxL mc ms : Nat} {ret : Option FieldType} {hh : List (Nat × Nat × Nat × Nat)} {gw : zG} {av : List Value} {lv : List (Nat × Value)} {cs : va_W} {Pv : Option Value → va_W → Prop} {sz : Nat} (hy : plainName y.cls = true) (hw : ws = Cond.codeWith y cc maxL ret hh :: ws') (hl : (lg_sl av).length ≤ maxL) (hlv : lv_args 0 av = lv)
    (body : ∀ (p : Program) (e : Env) (s : State) (m : MethodId) (args : Array Value) (below : List Frame) (meth : Method) (c : Code) (A : Nat → Prop), zF p s m args meth c A gw cc maxL ret ws y → s.heap.size = sz → zX A s → c.exceptionTable.toList = tableOf hh → ∀ ls : Array Slot, lv_has ls maxL lv → va_P gw.1 vwCl cs s.heap → va_D A cs → W p l e rm s m args below meth c s.heap [] 0 0 (MQ below (zQp gw Pv A) args s mc ms A) (F0 m 0 ls [])) :
    Met l y ws rm (va_Pc av (fun U => zPre gw cs sz U ∧ zX (va_A cs sz) U)) (zQp gw Pv (va_A cs sz)) mc ms (va_A cs sz) := by
  refine MetFree.of_bodyS (code := cc) (maxLocals := maxL) (ret := ret) hy ?_ ?_
  · intro args s m h hn
    obtain ⟨m9, meth, c, hn9, h1, h2, h3, h4, -, h5, h6, -⟩ := Cond.codeWith_spec (atoms_spec (ws := ws) h _ (by rw [hw]; exact List.mem_cons_self))
    cases hn.symm.trans hn9
    exact ⟨meth, c, h1, h2, h3, h4, h5, h6⟩
  · intro p e s m args below meth c s₁ B hml hv _
    have hh0 : s₁.heap = s.heap := by rw [B.state]; rfl
    have ht := vx_table (x := y) (bytes := cc) (maxL' := maxL) (ret' := ret) (hh := hh) B (atoms_spec (ws := ws) B.pre _ (by rw [hw]; exact List.mem_cons_self))
    obtain ⟨rfl, ⟨hsz, hP, hD0, hK⟩, hX⟩ := hv
    have hD := hD0.self (sz := sz)
    have hl' := lv_entry av (n := maxL) hl
    rw [hlv] at hl'
    have K := body p e s m _ below meth c (va_A cs sz) ⟨B.exec, B.bytes, hml, B.returns, findClass_of_methodNamed B.named, atoms_spec (ws := ws) B.pre, B.notSynchronized, hK, fun q h => Or.inr (by rw [← hsz]; exact h), (name_of_methodNamed B.named B.method).1⟩ hsz hX ht _ hl' hP hD
    rw [← lg_entry_eq] at K
    obtain ⟨t, a1, o, b1, b2, b3⟩ := K s₁ hh0 (Stand.of_body B)
    exact ⟨t, o, a1, b1, b2, ⟨b3.1, b3.2⟩⟩
section ZHE
variable {p : Program} {l : Launch} {e : Env} {R : Room} {s : State} {m : MethodId} {args : Array Value} {below : List Frame} {meth : Method} {c : Code} {H : Heap} {locs : List Loc} {cells slots : Nat} {Q : State → Prop}
variable {cc : ByteArray} {pc : Nat} {ls : Array Slot} {rest st0 : List Value} {gw : zG} {ws : va_W} {A : Nat → Prop} {own C host : String} {index : Nat}
variable {y : MethodName} {bytes : ByteArray} {maxL nL n mc ms : Nat} {ret : Option FieldType} {wy Ts : List Cond} {ry : Room} {b : Addr} {As : List Value} {wc wr : va_W} {Pv : Option Value → va_W → Prop} {Pw : va_W → Prop} {E : String} {hh : List (Nat × Nat × Nat × Nat)}
theorem z_blindX {av : List Value} {sz : Nat} : FrameBlind (va_Pc av (fun U => zPre gw wc sz U ∧ zX (va_A wc sz) U)) := fun _ _ _ _ q => ⟨q.1, ⟨q.2.1.1, q.2.1.2.1, q.2.1.2.2.1, zK.call q.2.1.2.2.2⟩, zX.call q.2.2⟩
theorem z_preX {av : List Value} (hK : zK gw s) (hX : zX A s) (hP : va_P gw.1 vwCl ws H) (hD : va_D A ws) (hS : va_S A s.heap H locs) (hA : ∀ q, s.heap.size ≤ q → A q) (hs : zAr ws (wc ++ wr)) : ∀ U : State, U.heap = H → s.WarmedH U.vm → va_Pc av (fun U => zPre gw wc H.size U ∧ zX (va_A wc H.size) U) av.toArray U := by
  intro U hU hW
  refine ⟨rfl, ⟨by rw [hU], ?_, ?_, hK.warm hW⟩, hX.go hS (z_freeA (hs.2 _ hD) hS hA) hU hW⟩
  · rw [hU]
    exact zP_iff.mpr (fun q hq => zP_iff.mp (hs.1 _ _ _ hP) q (List.mem_append_left _ hq))
  · exact (zD_app (hs.2 _ hD)).1.weaken (fun _ _ _ _ => trivial)
theorem z_goX {a : Array Value} (hr : vx_Run p l e R s m args below meth c H locs cells slots mc ms (F0 m pc ls st0) rest (zQp gw Pv (va_A wc H.size) a) (zXp gw E Pw (va_A wc H.size)) (va_A wc H.size)) (hP : va_P gw.1 vwCl ws H) (hD : va_D A ws) (hS : va_S A s.heap H locs) (hA : ∀ q, s.heap.size ≤ q → A q) (hs : zAr ws (wc ++ wr))
    (kk : ∀ (v : Option Value) (w : va_W) (H1 : Heap) (locs1 : List Loc), Pv v w → va_P gw.1 vwCl (wr ++ w) H1 → va_D A (wr ++ w) → va_S A s.heap H1 locs1 → W p l e R s m args below meth c H1 locs1 (cells + mc) (slots + ms) Q (F0 m (pc + 3) ls (v.toList ++ rest)))
    (kx : ∀ (w : va_W) (H1 : Heap) (locs1 : List Loc) (q9 : Addr) (ce : Cell), Pw w → va_P gw.1 vwCl (wr ++ w) H1 → va_D A (wr ++ w) → va_S A s.heap H1 locs1 → H1[q9]? = some ce → ce.vm = .none → s.vm.findClass E = some ce.cls → vx_W p l e R s m args below meth c H1 locs1 (cells + mc) (slots + ms) Q (F0 m pc ls rest) q9) : W p l e R s m args below meth c H locs cells slots Q (F0 m pc ls st0) := by
  intro T hT X
  have hF := z_freeA (hs.2 _ hD) hS hA
  have key : ∀ (t T' : State) (w : va_W) (L : List Loc), T'.heap = t.heap → (∀ q ∈ L, va_A wc H.size q.base) → va_P gw.1 vwCl w t.heap → va_D (va_A wc H.size) w → H.size ≤ t.heap.size → (∀ q : Nat, q < H.size → ¬ va_A wc H.size q → t.heap[q]? = H[q]?) → va_P gw.1 vwCl (wr ++ w) T'.heap ∧ va_D A (wr ++ w) ∧ va_S A s.heap T'.heap (locs ++ L) := by
    intro t T' w L e1 hL hP1 hD1 hz hk
    rw [← e1] at hP1
    obtain ⟨hP2, hD2⟩ := zJoin (H1 := T'.heap) (hs.1 _ _ _ hP) (hs.2 _ hD) (fun q h1 h2 => by rw [e1]; exact hk q h1 h2) hF hP1 hD1
    refine ⟨hP2, hD2, Nat.le_trans hS.1 (by rw [e1]; exact hz), fun q h1 h2 => by rw [e1, hk q (Nat.lt_of_lt_of_le h1 hS.1) (fun z => h2 (hF q z))]; exact hS.2.1 q h1 h2, fun q hq => ?_⟩
    rcases List.mem_append.mp hq with h | h
    · exact hS.2.2 q h
    · exact hF _ (hL q h)
  rcases hr T hT X with ⟨v', st₀, t, T', L, h0, X', hL, e1, e2, ⟨⟨v, w, hv, hw, hP1, hD1⟩, hz, hk⟩, st⟩ | ⟨q9, st₀, t, T', L, E9, ce, h0, X', hL, e1, e2, ⟨w, hw, ⟨rfl, hP1, hD1⟩, hz, hk⟩, hce, hcv, hcl, st⟩
  · cases hv
    rw [h0] at hz hk
    obtain ⟨g1, g2, g3⟩ := key t T' w L e1 hL hP1 hD1 hz hk
    obtain ⟨t2, a1, b1⟩ := kk _ w T'.heap (locs ++ L) hw g1 g2 g3 T' rfl X'
    exact ⟨t2, st t2 a1, b1⟩
  · rw [h0] at hz hk
    obtain ⟨g1, g2, g3⟩ := key t T' w L e1 hL hP1 hD1 hz hk
    obtain ⟨t2, a1, b1⟩ := kx w T'.heap (locs ++ L) q9 ce hw g1 g2 g3 (by rw [e1]; exact hce) hcv hcl T' rfl X'
    exact ⟨t2, st.trans a1, b1⟩
theorem z_callX (S : CallFix p m c cc nL s args Ts own) (hM : vx_Met l y wy ry (va_Pc (.ref b :: As) (fun U => zPre gw wc H.size U ∧ zX (va_A wc H.size) U)) (zQp gw Pv (va_A wc H.size)) (zXp gw E Pw (va_A wc H.size)) mc ms (va_A wc H.size)) (cw : CallW R s args own C index y bytes maxL ret wy ry mc ms n) (hK : zK gw s) (hX : zX A s) (hP : va_P gw.1 vwCl ws H) (hD : va_D A ws) (hS : va_S A s.heap H locs) (hA : ∀ q, s.heap.size ≤ q → A q) (hs : zAr ws (wc ++ wr))
    (q0 ci : Nat) {fs : List Value} {q : vw_C} (he : ws[q0]? = some (b, .inr (ci, fs))) (hc : vwCl[ci]? = some q) (hq : q.1 = C) (hlen : As.length = n) (hls : ls.size = nL) (hw : (rest.map fun v => v.category).sum ≤ 8) (hd : decode cc pc = .ok (.invokevirtual index, 3)) (hf : cells + mc ≤ R.cells ∧ slots + ms ≤ R.slots) (hst : st0 = As.reverse ++ .ref b :: rest)
    (kk : ∀ (v : Option Value) (w : va_W) (H1 : Heap) (locs1 : List Loc), Pv v w → va_P gw.1 vwCl (wr ++ w) H1 → va_D A (wr ++ w) → va_S A s.heap H1 locs1 → W p l e R s m args below meth c H1 locs1 (cells + mc) (slots + ms) Q (F0 m (pc + 3) ls (v.toList ++ rest)))
    (kx : ∀ (w : va_W) (H1 : Heap) (locs1 : List Loc) (q9 : Addr) (ce : Cell), Pw w → va_P gw.1 vwCl (wr ++ w) H1 → va_D A (wr ++ w) → va_S A s.heap H1 locs1 → H1[q9]? = some ce → ce.vm = .none → s.vm.findClass E = some ce.cls → vx_W p l e R s m args below meth c H1 locs1 (cells + mc) (slots + ms) Q (F0 m pc ls rest) q9) : W p l e R s m args below meth c H locs cells slots Q (F0 m pc ls st0) := by
  subst hq
  exact z_goX (vx_runV (As := As) (rest := rest) S hM cw ⟨z_blindX, va_recv hK.1 hP hc he, z_preX hK hX hP hD hS hA hs⟩ rfl hlen hls hst (lv_room hw) hd hf) hP hD hS hA hs kk kx
theorem z_callSH (S : CallFix p m c cc nL s args Ts own) (hM : Met l y wy ry (va_Pc As (fun U => zPre gw wc H.size U ∧ zX (va_A wc H.size) U)) (zQp gw Pv (va_A wc H.size)) mc ms (va_A wc H.size)) (cw : vx_CSW R s args own index y bytes maxL ret hh wy ry mc ms n) (hK : zK gw s) (hX : zX A s) (hP : va_P gw.1 vwCl ws H) (hD : va_D A ws) (hS : va_S A s.heap H locs) (hA : ∀ q, s.heap.size ≤ q → A q) (hs : zAr ws (wc ++ wr))
    (hlen : As.length = n) (hls : ls.size = nL) (hw : (rest.map fun v => v.category).sum ≤ 8) (hd : decode cc pc = .ok (.invokestatic index, 3)) (hf : cells + mc ≤ R.cells ∧ slots + ms ≤ R.slots) (hst : st0 = As.reverse ++ rest)
    (kk : ∀ (v : Option Value) (w : va_W) (H1 : Heap) (locs1 : List Loc), Pv v w → va_P gw.1 vwCl (wr ++ w) H1 → va_D A (wr ++ w) → va_S A s.heap H1 locs1 → W p l e R s m args below meth c H1 locs1 (cells + mc) (slots + ms) Q (F0 m (pc + 3) ls (v.toList ++ rest))) : W p l e R s m args below meth c H locs cells slots Q (F0 m pc ls st0) :=
  z_goP (vx_runSW (As := As) (rest := rest) S hM cw ⟨z_blindX, z_preX hK hX hP hD hS hA hs⟩ rfl hlen hls hst (lv_room hw) hd hf) hP hD hS hA hs kk
end ZHE
