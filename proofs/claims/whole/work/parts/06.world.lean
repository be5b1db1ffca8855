def zNf : List (String × Nat × String × String × String × String) := [(RX8, 111, RX1, "endings", "I", RX8), (RX8, 119, RX1, "prices", "[I", RX8), (RX8, 128, RX1, "stepPrices", "[I", RX8), (RX8, 140, RX4, "length", "I", RX8), (RX8, 153, RX4, "letters", "[I", RX8), (RX8, 159, RX3, "total", "I", RX8), (RX8, 164, RX3, "length", "I", RX8), (RX8, 167, RX3, "begins", "[I", RX8), (RX8, 170, RX3, "ends", "[I", RX8), (RX8, 173, RX3, "entries", "[I", RX8), (RX8, 186, RX3, "costs", "[I", RX8), (RX8, 189, RX4, "fixed", "[I", RX8), (RX8, 207, RX2, "length", "I", RX8), (RX8, 210, RX2, "entries", "[I", RX8), (RX8, 211, RX2, "costs", "[I", RX8), (RX8, 220, RX4, "breaks", "[I", RX8), (RX8, 240, RX7, "kept", "I", RX8), (RX8, 254, RX7, "entries", "[I", RX8), (RX8, 255, RX7, "lengths", "[I", RX8), (RX8, 260, RX1, "counts", "[I", RX8), (RX8, 265, RX1, "pairsOf", "[I", RX8), (RX8, 268, RX0, "kept", "I", RX8), (RX8, 91, RX1, "spellingsOf", "[I", RX8), (RX8, 99, RX1, "words", "I", RX8), (RX2, 111, RX1, "words", "I", RX8), (RX2, 114, RX1, "endings", "I", RX8), (RX2, 133, RX3, "rests", "[I", RX8), (RX2, 48, RX3, "length", "I", RX8), (RX2, 57, RX3, "begins", "[I", RX8), (RX2, 60, RX3, "ends", "[I", RX8), (RX2, 77, RX4, "length", "I", RX8), (RX2, 91, RX1, "stepCosts", "[I", RX8), (RX3, 100, RX5, "values", "[I", RX8), (RX3, 128, RX1, "stepCosts", "[I", RX8), (RX3, 60, RX4, "length", "I", RX8), (RX3, 90, RX4, "fixed", "[I", RX8), (RX5, 34, RX4, "length", "I", RX8), (RX5, 39, RX4, "letters", "[I", RX8), (RX5, 60, RX1, "prices", "[I", RX8), (RX5, 65, RX1, "words", "I", RX8), (RX5, 72, RX6, "low", "I", RX8), (RX5, 75, RX6, "high", "I", RX8), (RX5, 78, RX1, "wordKinds", "[I", RX8), (RX5, 88, RX6, "now", "[I", RX8), (RX6, 112, RX1, "spellingsOf", "[I", RX8), (RX6, 115, RX1, "spellingLengths", "[I", RX8), (RX6, 121, RX1, "spellingRows", "[I", RX8), (RX6, 124, RX4, "letters", "[I", RX8), (RX6, 129, RX1, "spellingPrices", "[I", RX8), (RX6, 32, RX1, "prices", "[I", RX8), (RX6, 49, RX1, "endingPrices", "[I", RX8), (RX6, 52, RX1, "endingSounds", "[J", RX8), (RX6, 60, RX1, "wordSounds", "[J", RX8), (RX6, 75, RX1, "endings", "I", RX8), (RX6, 79, RX1, "endingClasses", "[I", RX8), (RX6, 94, RX1, "wordClasses", "[I", RX8)]
def zNm : List (String × Nat × MethodName × String) := [(RX8, 103, yX1_addWord, RX8), (RX8, 11, yX1_init, RX8), (RX8, 114, yX1_addEnding, RX8), (RX8, 131, yX1_priceStep, RX8), (RX8, 146, yX4_append, RX8), (RX8, 156, yX3_renew, RX8), (RX8, 18, yX4_init, RX8), (RX8, 183, yX1_kindOf, RX8), (RX8, 194, yX1_signsOf, RX8), (RX8, 197, yX1_signAt, RX8), (RX8, 203, yX2_list, RX8), (RX8, 214, yX4_fix, RX8), (RX8, 223, yX4_moveBreak, RX8), (RX8, 226, yX4_fixedParts, RX8), (RX8, 230, yX4_freeHand, RX8), (RX8, 233, yX4_clear, RX8), (RX8, 236, yX0_undo, RX8), (RX8, 243, yX7_keep, RX8), (RX8, 247, yX1_learn, RX8), (RX8, 25, yX0_init, RX8), (RX8, 251, yX0_forget, RX8), (RX8, 271, yX0_keep, RX8), (RX8, 274, yX3_forget, RX8), (RX8, 275, yX2_forget, RX8), (RX8, 276, yX5_forget, RX8), (RX8, 32, yX7_init, RX8), (RX8, 39, yX6_init, RX8), (RX8, 48, yX5_init, RX8), (RX8, 57, yX3_init, RX8), (RX8, 66, yX2_init, RX8), (RX8, 84, yX1_addSpelling, RX8), (RX0, 21, yX4_init, RX8), (RX0, 22, yX4_copyFrom, RX8), (RX1, 71, yX8_digits, RX8), (RX1, 75, yX8_wordOf, RX8), (RX1, 85, yX8_rowLength, RX8), (RX1, 89, yX8_endingOf, RX8), (RX2, 102, yX4_reachFrom, RX8), (RX2, 106, yX3_valueOf, RX8), (RX2, 117, yX1_goesTogether, RX8), (RX2, 121, yX6_costOf, RX8), (RX2, 130, yX1_kindOf, RX8), (RX2, 84, yX4_partsAt, RX8), (RX3, 103, yX5_placeOf, RX8), (RX3, 107, yX1_kindOf, RX8), (RX3, 113, yX4_partsAt, RX8), (RX3, 117, yX4_reachFrom, RX8), (RX3, 63, yX5_renew, RX8), (RX3, 71, yX8_fillRange, RX8), (RX3, 93, yX6_costOf, RX8), (RX4, 44, yX8_fillRange, RX8), (RX5, 42, yX6_seedEndings, RX8), (RX5, 56, yX8_fillRange, RX8), (RX5, 68, yX6_walkWord, RX8), (RX5, 84, yX1_wordCost, RX8), (RX6, 38, yX8_wordOf, RX8), (RX6, 42, yX8_endingOf, RX8), (RX6, 66, yX1_wordCost, RX8)]
/-! the worlds of the class and of the reference: what a contract speaks of -/
abbrev zG : Type := va_G × ClassId × ClassId × ClassId
abbrev zT (gw : zG) : List (ClassId × FieldType) := [(gw.2.1, .int), (gw.2.2.1, .long), (gw.2.2.2, .object RX4)]
def zK (gw : zG) (U : State) : Prop := va_K gw.1 vwCl (zT gw) U ∧ (∀ q ∈ zNf, va_Nw (.fieldLinkNest q.1 q.2.1 q.2.2.1 q.2.2.2.1 q.2.2.2.2.1 q.2.2.2.2.2) U) ∧ ∀ q ∈ zNm, va_Nw (.methodLinkNest q.1 q.2.1 q.2.2.1 q.2.2.2) U
theorem zK.warm {gw : zG} {s U : State} (hW : s.WarmedH U.vm) (h : zK gw s) : zK gw U := ⟨va_K.moved hW.alike h.1, fun q hq => va_Nw.warmF hW (h.2.1 q hq), fun q hq => va_Nw.warmM hW (h.2.2 q hq)⟩
theorem zK.call {gw : zG} {U : State} {g : JFrame} {mk : MethodId} {a : Array Value} (h : zK gw U) : zK gw (U.calling g mk a) := ⟨va_K.moved (u := U) (U := U.calling g mk a) (Vm.Alike.refl U.vm) h.1, fun q hq => va_Nw.same rfl rfl (h.2.1 q hq), fun q hq => va_Nw.same rfl rfl (h.2.2 q hq)⟩
abbrev zA (gw : zG) (a n : Nat) (f : Nat → Int) : Nat × va_E := (a, .inl (gw.2.1, n, .inl (fun j => zi (f j))))
abbrev zB (gw : zG) (a n : Nat) (f : Nat → Int) : Nat × va_E := (a, .inl (gw.2.2.1, n, .inr (.inl (fun j => zl (f j)))))
def zPre (gw : zG) (ws : va_W) (sz : Nat) (U : State) : Prop := U.heap.size = sz ∧ va_P gw.1 vwCl ws U.heap ∧ va_D (fun _ => True) ws ∧ zK gw U
def zQ (gw : zG) (v : Option Value) (w : va_W) (A : Nat → Prop) : Array Value → State → Outcome → State → Prop := fun _ st oc t => (oc = .returned v ∧ va_P gw.1 vwCl w t.heap ∧ va_D A w) ∧ va_F A st t
def zF (p : Program) (s : State) (m : MethodId) (args : Array Value) (meth : Method) (c : Code) (A : Nat → Prop) (gw : zG) (cc : ByteArray) (nL : Nat) (ret : Option FieldType) (Ts : List Cond) (y : MethodName) : Prop :=
  p.tables.exec = Jvm.exec ∧ c.code = cc ∧ c.maxLocals = nL ∧ meth.sig.returnType = ret ∧ s.vm.findClass y.cls = some m.cls ∧ (∀ w ∈ Ts, w.before args s = true) ∧ meth.locks = false ∧ zK gw s ∧ (∀ q, s.heap.size ≤ q → A q) ∧ meth.name = y.name
theorem z_met {l : Launch} {y : MethodName} {ws ws' : List Cond} {rm : Room} {cc : ByteArray} {maxL : Nat} {ret : Option FieldType} {gw : zG} {av : List Value} {lv : List (Nat × Value)} {cs cs' : va_W} {v : Option Value} {sz : Nat} (hy : plainName y.cls = true) (hw : ws = Cond.code y cc maxL ret :: ws') (hl : (lg_sl av).length ≤ maxL) (hlv : lv_args 0 av = lv)
    (body : ∀ (p : Program) (e : Env) (s : State) (m : MethodId) (args : Array Value) (below : List Frame) (meth : Method) (c : Code) (A : Nat → Prop), zF p s m args meth c A gw cc maxL ret ws y → s.heap.size = sz → ∀ ls : Array Slot, lv_has ls maxL lv → va_P gw.1 vwCl cs s.heap → va_D A cs → W p l e rm s m args below meth c s.heap [] 0 0 (MQ below (zQ gw v cs' A) args s 0 0 A) (F0 m 0 ls [])) :
    Met l y ws rm (va_Pc av (zPre gw cs sz)) (zQ gw v cs' (va_A cs sz)) 0 0 (va_A cs sz) := by
  refine Met.ofW (cc := cc) (maxL := maxL) (ret := ret) hy hw ?_
  intro p e s m args below meth c s₁ B hml hv
  obtain ⟨rfl, hsz, hP, hD0, hK⟩ := hv
  have hD := hD0.self (sz := sz)
  have hl' := lv_entry av (n := maxL) hl
  rw [lg_entry_eq]
  rw [hlv] at hl'
  exact body p e s m _ below meth c (va_A cs sz) ⟨B.exec, B.bytes, hml, B.returns, findClass_of_methodNamed B.named, atoms_spec (ws := ws) B.pre, B.notSynchronized, hK, fun q h => Or.inr (by rw [← hsz]; exact h), (name_of_methodNamed B.named B.method).1⟩ hsz _ hl' hP hD
theorem z_blind {gw : zG} {av : List Value} {ws : va_W} {sz : Nat} : FrameBlind (va_Pc av (zPre gw ws sz)) := fun _ _ _ _ q => ⟨q.1, q.2.1, q.2.2.1, q.2.2.2.1, zK.call q.2.2.2.2⟩
theorem z_fm {α : Type} {f : Nat → Option α} {is : List Nat} {w : List α} (h : is.map f = w.map some) : is.filterMap f = w := by
  have h1 : is.filterMap f = (is.map f).filterMap id := by rw [List.filterMap_map]; rfl
  rw [h1, h, List.filterMap_map]
  induction w with
  | nil => rfl
  | cons a l ih => exact congrArg (fun z => a :: z) (by simp)
section ZW
variable {p : Program} {l : Launch} {e : Env} {R : Room} {s : State} {m : MethodId} {args : Array Value} {below : List Frame} {meth : Method} {c : Code} {H : Heap} {locs : List Loc} {cells slots : Nat} {Q : State → Prop}
variable {cc : ByteArray} {pc : Nat} {ls : Array Slot} {rest st0 : List Value} {gw : zG} {ws : va_W} {A : Nat → Prop}
theorem z_pre {wc : va_W} {av : List Value} (hK : zK gw s) (hP : va_P gw.1 vwCl ws H) (hD : va_D A ws) (isC : List Nat) (hn : va_nd isC = true) (hC : isC.map (fun i => ws[i]?) = wc.map some) : ∀ U : State, U.heap = H → s.WarmedH U.vm → va_Pc av (zPre gw wc H.size) av.toArray U := by
  intro U hU hW
  refine ⟨rfl, by rw [hU], ?_, (hD.sub isC hn hC).weaken (fun _ _ _ _ => trivial), hK.warm hW⟩
  rw [hU]
  exact hP.sub isC (z_fm hC)
/-- behind a call: what came back, in the caller's order -/
theorem z_go {v : Option Value} {wc wr w1 ws' : va_W} {a : Array Value} (hr : va_Run p l e R s m args below meth c H locs cells slots 0 0 (F0 m pc ls st0) rest (zQ gw v w1 (va_A wc H.size) a) (va_A wc H.size)) (hP : va_P gw.1 vwCl ws H) (hD : va_D A ws) (hS : va_S A s.heap H locs) (hA : ∀ q, s.heap.size ≤ q → A q)
    (isC isR isP : List Nat) (hC : isC.map (fun i => ws[i]?) = wc.map some) (hR : isR.map (fun i => ws[i]?) = wr.map some) (hn : va_nd isR = true) (hdis : ∀ i ∈ isR, i ∉ isC) (hp : isP.map (fun i => (wr ++ w1)[i]?) = ws'.map some) (hnp : va_nd isP = true)
    (kk : ∀ (H1 : Heap) (locs1 : List Loc), va_P gw.1 vwCl ws' H1 → va_D A ws' → va_S A s.heap H1 locs1 → W p l e R s m args below meth c H1 locs1 cells slots Q (F0 m (pc + 3) ls (v.toList ++ rest))) : W p l e R s m args below meth c H locs cells slots Q (F0 m pc ls st0) := by
  intro T hT X
  obtain ⟨v', st₀, t, T', L, h0, X', hL, e1, e2, ⟨⟨hv, hP1, hD1⟩, hz, hk⟩, st⟩ := hr T hT X
  cases hv
  rw [h0] at hz hk
  have hF := va_free (wc := wc) hD hS hA isC hC
  rw [← e1] at hP1
  obtain ⟨hP2, hD2⟩ := va_join (wr := wr) (w1 := w1) (H1 := T'.heap) hP hD isC isR hC hR hn hdis (fun q h1 h2 => by rw [e1]; exact hk q h1 h2) hF hP1 hD1
  obtain ⟨t2, a1, b1⟩ := kk T'.heap (locs ++ L) (hP2.sub isP (z_fm hp)) (hD2.sub isP hnp hp)
    ⟨Nat.le_trans hS.1 (by rw [e1]; exact hz), fun q h1 h2 => by rw [e1, hk q (Nat.lt_of_lt_of_le h1 hS.1) (fun z => h2 (hF q z))]; exact hS.2.1 q h1 h2, fun q hq => by
      rcases List.mem_append.mp hq with h | h
      · exact hS.2.2 q h
      · exact hF _ (hL q h)⟩ T' rfl X'
  exact ⟨t2, st t2 a1, b1⟩
variable {y : MethodName} {bytes : ByteArray} {maxL nL n index : Nat} {ret : Option FieldType} {wy Ts : List Cond} {ry : Room} {own C host : String} {b : Addr} {As : List Value} {v : Option Value} {wc wr w1 ws' : va_W}
/-- a call of a method of the same class, of a nest mate, of a static one -/
theorem z_callV (S : CallFix p m c cc nL s args Ts own) (hM : Met l y wy ry (va_Pc (.ref b :: As) (zPre gw wc H.size)) (zQ gw v w1 (va_A wc H.size)) 0 0 (va_A wc H.size)) (cw : CallW R s args own C index y bytes maxL ret wy ry 0 0 n) (hK : zK gw s) (hP : va_P gw.1 vwCl ws H) (hD : va_D A ws) (hS : va_S A s.heap H locs) (hA : ∀ q, s.heap.size ≤ q → A q)
    (isC isR isP : List Nat) (hnC : va_nd isC = true) (hC : isC.map (fun i => ws[i]?) = wc.map some) (hR : isR.map (fun i => ws[i]?) = wr.map some) (hn : va_nd isR = true) (hdis : ∀ i ∈ isR, i ∉ isC) (hp : isP.map (fun i => (wr ++ w1)[i]?) = ws'.map some) (hnp : va_nd isP = true)
    (q0 ci : Nat) {fs : List Value} {q : vw_C} (he : ws[q0]? = some (b, .inr (ci, fs))) (hc : vwCl[ci]? = some q) (hq : q.1 = C) (hlen : As.length = n) (hls : ls.size = nL) (hw : (rest.map fun v => v.category).sum ≤ 8) (hd : decode cc pc = .ok (.invokevirtual index, 3)) (hf : cells ≤ R.cells ∧ slots ≤ R.slots) (hst : st0 = As.reverse ++ .ref b :: rest)
    (kk : ∀ (H1 : Heap) (locs1 : List Loc), va_P gw.1 vwCl ws' H1 → va_D A ws' → va_S A s.heap H1 locs1 → W p l e R s m args below meth c H1 locs1 cells slots Q (F0 m (pc + 3) ls (v.toList ++ rest))) : W p l e R s m args below meth c H locs cells slots Q (F0 m pc ls st0) := by
  subst hq
  exact z_go (va_runV (As := As) (rest := rest) S hM cw ⟨z_blind, va_recv hK.1 hP hc he, z_pre hK hP hD isC hnC hC⟩ rfl hlen hls hst (lv_room hw) hd hf) hP hD hS hA isC isR isP hC hR hn hdis hp hnp kk
theorem z_callVN (S : CallFix p m c cc nL s args Ts own) (hM : Met l y wy ry (va_Pc (.ref b :: As) (zPre gw wc H.size)) (zQ gw v w1 (va_A wc H.size)) 0 0 (va_A wc H.size)) (cw : va_CN R s args own index y host bytes maxL ret wy ry 0 0 n ∧ (Cond.instanceMethod y).before args s = true ∧ (Cond.selects C y y).before args s = true) (hK : zK gw s) (hP : va_P gw.1 vwCl ws H) (hD : va_D A ws) (hS : va_S A s.heap H locs) (hA : ∀ q, s.heap.size ≤ q → A q)
    (isC isR isP : List Nat) (hnC : va_nd isC = true) (hC : isC.map (fun i => ws[i]?) = wc.map some) (hR : isR.map (fun i => ws[i]?) = wr.map some) (hn : va_nd isR = true) (hdis : ∀ i ∈ isR, i ∉ isC) (hp : isP.map (fun i => (wr ++ w1)[i]?) = ws'.map some) (hnp : va_nd isP = true)
    (q0 ci : Nat) {fs : List Value} {q : vw_C} (he : ws[q0]? = some (b, .inr (ci, fs))) (hc : vwCl[ci]? = some q) (hq : q.1 = C) (hlen : As.length = n) (hls : ls.size = nL) (hw : (rest.map fun v => v.category).sum ≤ 8) (hd : decode cc pc = .ok (.invokevirtual index, 3)) (hf : cells ≤ R.cells ∧ slots ≤ R.slots) (hst : st0 = As.reverse ++ .ref b :: rest)
    (kk : ∀ (H1 : Heap) (locs1 : List Loc), va_P gw.1 vwCl ws' H1 → va_D A ws' → va_S A s.heap H1 locs1 → W p l e R s m args below meth c H1 locs1 cells slots Q (F0 m (pc + 3) ls (v.toList ++ rest))) : W p l e R s m args below meth c H locs cells slots Q (F0 m pc ls st0) := by
  subst hq
  exact z_go (va_runVN (As := As) (rest := rest) S hM cw ⟨z_blind, va_recv hK.1 hP hc he, z_pre hK hP hD isC hnC hC⟩ rfl hlen hls hst (lv_room hw) hd hf) hP hD hS hA isC isR isP hC hR hn hdis hp hnp kk
theorem z_callS (S : CallFix p m c cc nL s args Ts own) (hM : Met l y wy ry (va_Pc As (zPre gw wc H.size)) (zQ gw v w1 (va_A wc H.size)) 0 0 (va_A wc H.size)) (cw : CallB R s args own index y bytes maxL ret wy ry 0 0 n ∧ (Cond.static y).before args s = true) (hK : zK gw s) (hP : va_P gw.1 vwCl ws H) (hD : va_D A ws) (hS : va_S A s.heap H locs) (hA : ∀ q, s.heap.size ≤ q → A q)
    (isC isR isP : List Nat) (hnC : va_nd isC = true) (hC : isC.map (fun i => ws[i]?) = wc.map some) (hR : isR.map (fun i => ws[i]?) = wr.map some) (hn : va_nd isR = true) (hdis : ∀ i ∈ isR, i ∉ isC) (hp : isP.map (fun i => (wr ++ w1)[i]?) = ws'.map some) (hnp : va_nd isP = true)
    (hlen : As.length = n) (hls : ls.size = nL) (hw : (rest.map fun v => v.category).sum ≤ 8) (hd : decode cc pc = .ok (.invokestatic index, 3)) (hf : cells ≤ R.cells ∧ slots ≤ R.slots) (hst : st0 = As.reverse ++ rest)
    (kk : ∀ (H1 : Heap) (locs1 : List Loc), va_P gw.1 vwCl ws' H1 → va_D A ws' → va_S A s.heap H1 locs1 → W p l e R s m args below meth c H1 locs1 cells slots Q (F0 m (pc + 3) ls (v.toList ++ rest))) : W p l e R s m args below meth c H locs cells slots Q (F0 m pc ls st0) :=
  z_go (va_runS (As := As) (rest := rest) S hM cw ⟨z_blind, z_pre hK hP hD isC hnC hC⟩ rfl hlen hls hst (lv_room hw) hd hf) hP hD hS hA isC isR isP hC hR hn hdis hp hnp kk
theorem z_callSN (S : CallFix p m c cc nL s args Ts own) (hM : Met l y wy ry (va_Pc As (zPre gw wc H.size)) (zQ gw v w1 (va_A wc H.size)) 0 0 (va_A wc H.size)) (cw : va_CN R s args own index y host bytes maxL ret wy ry 0 0 n ∧ (Cond.static y).before args s = true ∧ True) (hK : zK gw s) (hP : va_P gw.1 vwCl ws H) (hD : va_D A ws) (hS : va_S A s.heap H locs) (hA : ∀ q, s.heap.size ≤ q → A q)
    (isC isR isP : List Nat) (hnC : va_nd isC = true) (hC : isC.map (fun i => ws[i]?) = wc.map some) (hR : isR.map (fun i => ws[i]?) = wr.map some) (hn : va_nd isR = true) (hdis : ∀ i ∈ isR, i ∉ isC) (hp : isP.map (fun i => (wr ++ w1)[i]?) = ws'.map some) (hnp : va_nd isP = true)
    (hlen : As.length = n) (hls : ls.size = nL) (hw : (rest.map fun v => v.category).sum ≤ 8) (hd : decode cc pc = .ok (.invokestatic index, 3)) (hf : cells ≤ R.cells ∧ slots ≤ R.slots) (hst : st0 = As.reverse ++ rest)
    (kk : ∀ (H1 : Heap) (locs1 : List Loc), va_P gw.1 vwCl ws' H1 → va_D A ws' → va_S A s.heap H1 locs1 → W p l e R s m args below meth c H1 locs1 cells slots Q (F0 m (pc + 3) ls (v.toList ++ rest))) : W p l e R s m args below meth c H locs cells slots Q (F0 m pc ls st0) :=
  z_go (va_runSN (As := As) (rest := rest) S hM cw ⟨z_blind, z_pre hK hP hD isC hnC hC⟩ rfl hlen hls hst (lv_room hw) hd hf) hP hD hS hA isC isR isP hC hR hn hdis hp hnp kk
theorem z_iret {r : Int} {cs : va_W} (hx : p.tables.exec = Jvm.exec) (hb : c.code = cc) (hr : meth.sig.returnType = some .int) (hlk : meth.locks = false) (hP : va_P gw.1 vwCl cs H) (hD : va_D A cs) (hS : va_S A s.heap H locs) (hd : decode cc pc = .ok (.ireturn, 1)) : W p l e R s m args below meth c H locs 0 0 (MQ below (zQ gw (some (.int (zi r))) cs A) args s 0 0 A) (F0 m pc ls [.int (zi r)]) :=
  W.iret hx hb hr (fun t ht _ => ⟨⟨rfl, by rw [ht]; exact hP, hD⟩, hS.F ht⟩) hS.2.2 hd hlk
theorem z_zret {r : Int} {cs : va_W} (hx : p.tables.exec = Jvm.exec) (hb : c.code = cc) (hr : meth.sig.returnType = some .boolean) (hlk : meth.locks = false) (hP : va_P gw.1 vwCl cs H) (hD : va_D A cs) (hS : va_S A s.heap H locs) (h01 : r = 0 ∨ r = 1) (hd : decode cc pc = .ok (.ireturn, 1)) : W p l e R s m args below meth c H locs 0 0 (MQ below (zQ gw (some (.int (zi r))) cs A) args s 0 0 A) (F0 m pc ls [.int (zi r)]) :=
  W.zret hx hb hr (by rcases h01 with h | h <;> subst h <;> decide) (fun t ht _ => ⟨⟨rfl, by rw [ht]; exact hP, hD⟩, hS.F ht⟩) hS.2.2 hd hlk
theorem z_vret {cs : va_W} (hx : p.tables.exec = Jvm.exec) (hb : c.code = cc) (hr : meth.sig.returnType = none) (hlk : meth.locks = false) (hP : va_P gw.1 vwCl cs H) (hD : va_D A cs) (hS : va_S A s.heap H locs) (hd : decode cc pc = .ok (.return_, 1)) : W p l e R s m args below meth c H locs 0 0 (MQ below (zQ gw none cs A) args s 0 0 A) (F0 m pc ls []) :=
  W.vret hx hb hr (fun t ht _ => ⟨⟨rfl, by rw [ht]; exact hP, hD⟩, hS.F ht⟩) hS.2.2 hd hlk
/-- rows of ints and of longs -/
theorem z_iald (hx : p.tables.exec = Jvm.exec) (hb : c.code = cc) (hK : zK gw s) (hP : va_P gw.1 vwCl ws H) (q0 : Nat) {a n : Nat} {f : Nat → Int} (ha : ws[q0]? = some (zA gw a n f)) {i : Int} (hi : 0 ≤ i ∧ i < (n : Int)) (hn : n ≤ 2147483648) (hd : decode cc pc = .ok (.iaload, 1))
    (kk : W p l e R s m args below meth c H locs cells slots Q (F0 m (pc + 1) ls (.int (zi (f i.toNat)) :: rest))) : W p l e R s m args below meth c H locs cells slots Q (F0 m pc ls (.int (zi i) :: .ref a :: rest)) := by
  refine va_iald hx hb hK.1 hP q0 0 ha rfl (zi_in hi hn) hd ?_
  rw [zi_clamp hi.1 (by omega)]
  exact kk
theorem z_lald (hx : p.tables.exec = Jvm.exec) (hb : c.code = cc) (hK : zK gw s) (hP : va_P gw.1 vwCl ws H) (q0 : Nat) {a n : Nat} {f : Nat → Int} (ha : ws[q0]? = some (zB gw a n f)) {i : Int} (hi : 0 ≤ i ∧ i < (n : Int)) (hn : n ≤ 2147483648) (hd : decode cc pc = .ok (.laload, 1))
    (kk : W p l e R s m args below meth c H locs cells slots Q (F0 m (pc + 1) ls (.long (zl (f i.toNat)) :: rest))) : W p l e R s m args below meth c H locs cells slots Q (F0 m pc ls (.int (zi i) :: .ref a :: rest)) := by
  refine va_lald hx hb hK.1 hP q0 1 ha rfl (zi_in hi hn) hd ?_
  rw [zi_clamp hi.1 (by omega)]
  exact kk
theorem z_iast (hx : p.tables.exec = Jvm.exec) (hb : c.code = cc) (hK : zK gw s) (hP : va_P gw.1 vwCl ws H) (hD : va_D A ws) (hS : va_S A s.heap H locs) (q0 : Nat) {a n : Nat} {f f' : Nat → Int} (ha : ws[q0]? = some (zA gw a n f)) {i x : Int} (hi : 0 ≤ i ∧ i < (n : Int)) (hn : n ≤ 2147483648) (hf : f' = uz f i.toNat x) (hd : decode cc pc = .ok (.iastore, 1))
    (kk : ∀ (H1 : Heap) (locs1 : List Loc), va_P gw.1 vwCl (ws.set q0 (zA gw a n f')) H1 → va_D A (ws.set q0 (zA gw a n f')) → va_S A s.heap H1 locs1 → W p l e R s m args below meth c H1 locs1 cells slots Q (F0 m (pc + 1) ls rest)) : W p l e R s m args below meth c H locs cells slots Q (F0 m pc ls (.int (zi x) :: .int (zi i) :: .ref a :: rest)) := by
  refine va_iast hx hb hK.1 hP hD hS q0 0 ha rfl (zi_in hi hn) hd fun H1 locs1 h1 h2 h3 => ?_
  rw [zi_clamp hi.1 (by omega), uz_i, ← hf] at h1 h2
  exact kk H1 locs1 h1 h2 h3
theorem z_last (hx : p.tables.exec = Jvm.exec) (hb : c.code = cc) (hK : zK gw s) (hP : va_P gw.1 vwCl ws H) (hD : va_D A ws) (hS : va_S A s.heap H locs) (q0 : Nat) {a n : Nat} {f f' : Nat → Int} (ha : ws[q0]? = some (zB gw a n f)) {i x : Int} (hi : 0 ≤ i ∧ i < (n : Int)) (hn : n ≤ 2147483648) (hf : f' = uz f i.toNat x) (hd : decode cc pc = .ok (.lastore, 1))
    (kk : ∀ (H1 : Heap) (locs1 : List Loc), va_P gw.1 vwCl (ws.set q0 (zB gw a n f')) H1 → va_D A (ws.set q0 (zB gw a n f')) → va_S A s.heap H1 locs1 → W p l e R s m args below meth c H1 locs1 cells slots Q (F0 m (pc + 1) ls rest)) : W p l e R s m args below meth c H locs cells slots Q (F0 m pc ls (.long (zl x) :: .int (zi i) :: .ref a :: rest)) := by
  refine va_last hx hb hK.1 hP hD hS q0 1 ha rfl (zi_in hi hn) hd fun H1 locs1 h1 h2 h3 => ?_
  rw [zi_clamp hi.1 (by omega), uz_l, ← hf] at h1 h2
  exact kk H1 locs1 h1 h2 h3
theorem z_mmax (hx : p.tables.exec = Jvm.exec) (hb : c.code = cc) (hml : c.maxLocals = ls.size) (hown : s.vm.findClass own = some m.cls) (hlink : (Cond.methodLink own index Lib.Math.max.name).before args s = true) (hstat : (Cond.static Lib.Math.max.name).before args s = true) (hini : (Cond.initialized "java/lang/Math").before args s = true) (hcode : (Cond.code Lib.Math.max.name Lib.Math.max.code 2 (some .int)).before args s = true)
    (hframes : 1 ≤ R.frames) (hlocals : (rest.map fun v => v.category).sum + 13 ≤ R.locals) (hc : cells ≤ R.cells) (hs : slots ≤ R.slots) {x y : Int} (h1 : inI x) (h2 : inI y) (hd : decode cc pc = .ok (.invokestatic index, 3))
    (kk : W p l e R s m args below meth c H locs cells slots Q (F0 m (pc + 3) ls (.int (zi (max x y)) :: rest))) : W p l e R s m args below meth c H locs cells slots Q (F0 m pc ls (.int (zi y) :: .int (zi x) :: rest)) := by
  refine va_mmax hx hb hml hown hlink hstat hini hcode hframes hlocals hc hs hd ?_
  have e1 : (if zi x < zi y then zi y else zi x) = zi (max x y) := by
    by_cases h : x < y
    · rw [if_pos ((zi_lt h1 h2).mpr h), Int.max_eq_right (by omega)]
    · rw [if_neg (fun z => h ((zi_lt h1 h2).mp z)), Int.max_eq_left (by omega)]
  rw [e1]
  exact kk
theorem z_mmin (hx : p.tables.exec = Jvm.exec) (hb : c.code = cc) (hml : c.maxLocals = ls.size) (hown : s.vm.findClass own = some m.cls) (hlink : (Cond.methodLink own index Lib.Math.min.name).before args s = true) (hstat : (Cond.static Lib.Math.min.name).before args s = true) (hini : (Cond.initialized "java/lang/Math").before args s = true) (hcode : (Cond.code Lib.Math.min.name Lib.Math.min.code 2 (some .int)).before args s = true)
    (hframes : 1 ≤ R.frames) (hlocals : (rest.map fun v => v.category).sum + 13 ≤ R.locals) (hc : cells ≤ R.cells) (hs : slots ≤ R.slots) {x y : Int} (h1 : inI x) (h2 : inI y) (hd : decode cc pc = .ok (.invokestatic index, 3))
    (kk : W p l e R s m args below meth c H locs cells slots Q (F0 m (pc + 3) ls (.int (zi (min x y)) :: rest))) : W p l e R s m args below meth c H locs cells slots Q (F0 m pc ls (.int (zi y) :: .int (zi x) :: rest)) := by
  refine va_mmin hx hb hml hown hlink hstat hini hcode hframes hlocals hc hs hd ?_
  first
  | (have e1 : (if zi y < zi x then zi y else zi x) = zi (min x y) := by
      by_cases h : y < x
      · rw [if_pos ((zi_lt h2 h1).mpr h), Int.min_eq_right (by omega)]
      · rw [if_neg (fun z => h ((zi_lt h2 h1).mp z)), Int.min_eq_left (by omega)]
     rw [e1]
     exact kk)
  | (have e1 : (if zi x < zi y then zi x else zi y) = zi (min x y) := by
      by_cases h : x < y
      · rw [if_pos ((zi_lt h1 h2).mpr h), Int.min_eq_left (by omega)]
      · rw [if_neg (fun z => h ((zi_lt h1 h2).mp z)), Int.min_eq_right (by omega)]
     rw [e1]
     exact kk)
end ZW
