/-! throws: what a method that throws must know of the start -/
def zStr : List (Nat × String) := [(79, "no such sound, row or price"), (95, "a row is none"), (97, "no such kind or class"), (107, "no such row or sign"), (109, "no such class or price"), (117, "no such price"), (126, "no such step or price"), (138, "no such letter"), (165, "no such part"), (192, "a part has no such thing"), (201, "no such sign"), (208, "no such part or choice"), (212, "a choice has no such thing"), (218, "no such place or break"), (258, "no such word"), (263, "no such kinds"), (269, "nothing of this is told")]
def zDc : List MethodName := [Bundle.initS "java/lang/RuntimeException", Bundle.initS "java/lang/Exception", Bundle.initS Bundle.tN]
abbrev xIAE : String := "java/lang/IllegalArgumentException"
abbrev xNSE : String := "java/util/NoSuchElementException"
abbrev xNm : List String := ["java/lang/RuntimeException", "java/lang/Exception"]
def zX (A : Nat → Prop) (U : State) : Prop := vx_Zq Bundle.tN "UNASSIGNED_STACK" Bundle.steD A U U.heap ∧ vx_Zq Bundle.tN "SUPPRESSED_SENTINEL" Bundle.listD A U U.heap ∧ (∀ q ∈ zStr, ∃ sa, vk_R RX8 q.1 q.2 sa U) ∧ (∀ y ∈ zDc, va_Nw (.declares y) U) ∧ va_Nw (.castable xIAE xIAE) U ∧ va_Nw (.castable xNSE xNSE) U
theorem zX.go {A B : Nat → Prop} {s U : State} {H : Heap} {locs : List Loc} (h : zX A s) (hS : va_S A s.heap H locs) (hAB : ∀ q, B q → A q) (hU : U.heap = H) (hW : s.WarmedH U.vm) : zX B U := by
  obtain ⟨h1, h2, h3, h4, h5, h6⟩ := h
  subst hU
  exact ⟨((h1.kept hS.2.1).narrow hAB).moved hW.alike, ((h2.kept hS.2.1).narrow hAB).moved hW.alike, fun q hq => (h3 q hq).elim fun sa hsa => ⟨sa, hsa.warm hW⟩, fun y hy => (h4 y hy).warmD hW, h5.warmC hW, h6.warmC hW⟩
theorem zX.call {A : Nat → Prop} {U : State} {g : JFrame} {mk : MethodId} {a : Array Value} (h : zX A U) : zX A (U.calling g mk a) := by
  obtain ⟨h1, h2, h3, h4, h5, h6⟩ := h
  exact ⟨vx_Zq.moved (u := U) (U := U.calling g mk a) (Vm.Alike.refl U.vm) h1, vx_Zq.moved (u := U) (U := U.calling g mk a) (Vm.Alike.refl U.vm) h2, fun q hq => (h3 q hq).elim fun sa hsa => ⟨sa, vk_R.same (u := U) (U := U.calling g mk a) rfl hsa⟩, fun y hy => va_Nw.same rfl rfl (h4 y hy), va_Nw.same rfl rfl h5, va_Nw.same rfl rfl h6⟩
def zQp (gw : zG) (Pv : Option Value → va_W → Prop) (A : Nat → Prop) : Array Value → State → Outcome → State → Prop := fun _ st oc t => (∃ v w, oc = .returned v ∧ Pv v w ∧ va_P gw.1 vwCl w t.heap ∧ va_D A w) ∧ va_F A st t
def zXp (gw : zG) (E : String) (Pw : va_W → Prop) (A : Nat → Prop) : String → State → State → Prop := vx_X (S := va_W) Pw (fun E' w t => E' = E ∧ va_P gw.1 vwCl w t.heap ∧ va_D A w) A
theorem z_metX {l : Launch} {y : MethodName} {ws ws' : List Cond} {rm : Room} {cc : ByteArray} {maxL mc ms : Nat} {ret : Option FieldType} {gw : zG} {av : List Value} {lv : List (Nat × Value)} {cs : va_W} {Pv : Option Value → va_W → Prop} {Pw : va_W → Prop} {E : String} {sz : Nat} (hy : plainName y.cls = true) (hw : ws = Cond.code y cc maxL ret :: ws') (hl : (lg_sl av).length ≤ maxL) (hlv : lv_args 0 av = lv)
    (body : ∀ (p : Program) (e : Env) (s : State) (m : MethodId) (args : Array Value) (below : List Frame) (meth : Method) (c : Code) (A : Nat → Prop), zF p s m args meth c A gw cc maxL ret ws y → s.heap.size = sz → zX A s → (∀ x ∈ c.exceptionTable.toList, False) → ∀ ls : Array Slot, lv_has ls maxL lv → va_P gw.1 vwCl cs s.heap → va_D A cs → W p l e rm s m args below meth c s.heap [] 0 0 (vx_MQ below (zQp gw Pv A) (zXp gw E Pw A) args s mc ms A) (F0 m 0 ls [])) :
    vx_Met l y ws rm (va_Pc av (fun U => zPre gw cs sz U ∧ zX (va_A cs sz) U)) (zQp gw Pv (va_A cs sz)) (zXp gw E Pw (va_A cs sz)) mc ms (va_A cs sz) := by
  refine vx_ofW (cc := cc) (maxL := maxL) (ret := ret) hy hw ?_
  intro p e s m args below meth c s₁ B hml hx hv
  obtain ⟨rfl, ⟨hsz, hP, hD0, hK⟩, hX⟩ := hv
  have hD := hD0.self (sz := sz)
  have hl' := lv_entry av (n := maxL) hl
  rw [lg_entry_eq]
  rw [hlv] at hl'
  exact body p e s m _ below meth c (va_A cs sz) ⟨B.exec, B.bytes, hml, B.returns, findClass_of_methodNamed B.named, atoms_spec (ws := ws) B.pre, B.notSynchronized, hK, fun q h => Or.inr (by rw [← hsz]; exact h), (name_of_methodNamed B.named B.method).1⟩ hsz hX hx _ hl' hP hD
theorem z_metP {l : Launch} {y : MethodName} {ws ws' : List Cond} {rm : Room} {cc : ByteArray} {maxL mc ms : Nat} {ret : Option FieldType} {gw : zG} {av : List Value} {lv : List (Nat × Value)} {cs : va_W} {Pv : Option Value → va_W → Prop} {sz : Nat} (hy : plainName y.cls = true) (hw : ws = Cond.code y cc maxL ret :: ws') (hl : (lg_sl av).length ≤ maxL) (hlv : lv_args 0 av = lv)
    (body : ∀ (p : Program) (e : Env) (s : State) (m : MethodId) (args : Array Value) (below : List Frame) (meth : Method) (c : Code) (A : Nat → Prop), zF p s m args meth c A gw cc maxL ret ws y → s.heap.size = sz → ∀ ls : Array Slot, lv_has ls maxL lv → va_P gw.1 vwCl cs s.heap → va_D A cs → W p l e rm s m args below meth c s.heap [] 0 0 (MQ below (zQp gw Pv A) args s mc ms A) (F0 m 0 ls [])) :
    Met l y ws rm (va_Pc av (zPre gw cs sz)) (zQp gw Pv (va_A cs sz)) mc ms (va_A cs sz) := by
  refine Met.ofW (cc := cc) (maxL := maxL) (ret := ret) hy hw ?_
  intro p e s m args below meth c s₁ B hml hv
  obtain ⟨rfl, hsz, hP, hD0, hK⟩ := hv
  have hD := hD0.self (sz := sz)
  have hl' := lv_entry av (n := maxL) hl
  rw [lg_entry_eq]
  rw [hlv] at hl'
  exact body p e s m _ below meth c (va_A cs sz) ⟨B.exec, B.bytes, hml, B.returns, findClass_of_methodNamed B.named, atoms_spec (ws := ws) B.pre, B.notSynchronized, hK, fun q h => Or.inr (by rw [← hsz]; exact h), (name_of_methodNamed B.named B.method).1⟩ hsz _ hl' hP hD
section ZTH
variable {p : Program} {l : Launch} {e : Env} {R : Room} {s : State} {m : MethodId} {args : Array Value} {below : List Frame} {meth : Method} {c : Code} {H : Heap} {locs : List Loc} {cells slots : Nat} {Q : State → Prop}
variable {cc : ByteArray} {pc : Nat} {ls : Array Slot} {rest st0 : List Value} {gw : zG} {ws : va_W} {A : Nat → Prop} {own C host : String} {index : Nat}
variable {y : MethodName} {bytes : ByteArray} {maxL nL n mc ms : Nat} {ret : Option FieldType} {wy Ts : List Cond} {ry : Room} {b : Addr} {As : List Value} {v : Option Value} {wc wr w1 ws' cs : va_W} {Pv : Option Value → va_W → Prop} {Pw : va_W → Prop} {E : String} {Qc : Array Value → State → Outcome → State → Prop}
theorem z_iretP {r : Int} (hx : p.tables.exec = Jvm.exec) (hb : c.code = cc) (hr : meth.sig.returnType = some .int) (hlk : meth.locks = false) (hP : va_P gw.1 vwCl cs H) (hD : va_D A cs) (hS : va_S A s.heap H locs) (hw : Pv (some (.int (zi r))) cs) (hc : cells ≤ mc) (hs : slots ≤ ms) (hd : decode cc pc = .ok (.ireturn, 1)) : W p l e R s m args below meth c H locs cells slots (MQ below (zQp gw Pv A) args s mc ms A) (F0 m pc ls [.int (zi r)]) :=
  W.widen hc hs (W.iret hx hb hr (fun t ht _ => ⟨⟨_, cs, rfl, hw, by rw [ht]; exact hP, hD⟩, hS.F ht⟩) hS.2.2 hd hlk)
theorem z_zretP {r : Int} (hx : p.tables.exec = Jvm.exec) (hb : c.code = cc) (hr : meth.sig.returnType = some .boolean) (hlk : meth.locks = false) (hP : va_P gw.1 vwCl cs H) (hD : va_D A cs) (hS : va_S A s.heap H locs) (hw : Pv (some (.int (zi r))) cs) (hc : cells ≤ mc) (hs : slots ≤ ms) (h01 : r = 0 ∨ r = 1) (hd : decode cc pc = .ok (.ireturn, 1)) : W p l e R s m args below meth c H locs cells slots (MQ below (zQp gw Pv A) args s mc ms A) (F0 m pc ls [.int (zi r)]) :=
  W.widen hc hs (W.zret hx hb hr (by rcases h01 with h | h <;> subst h <;> decide) (fun t ht _ => ⟨⟨_, cs, rfl, hw, by rw [ht]; exact hP, hD⟩, hS.F ht⟩) hS.2.2 hd hlk)
theorem z_vretP (hx : p.tables.exec = Jvm.exec) (hb : c.code = cc) (hr : meth.sig.returnType = none) (hlk : meth.locks = false) (hP : va_P gw.1 vwCl cs H) (hD : va_D A cs) (hS : va_S A s.heap H locs) (hw : Pv none cs) (hc : cells ≤ mc) (hs : slots ≤ ms) (hd : decode cc pc = .ok (.return_, 1)) : W p l e R s m args below meth c H locs cells slots (MQ below (zQp gw Pv A) args s mc ms A) (F0 m pc ls []) :=
  W.widen hc hs (W.vret hx hb hr (fun t ht _ => ⟨⟨_, cs, rfl, hw, by rw [ht]; exact hP, hD⟩, hS.F ht⟩) hS.2.2 hd hlk)
theorem z_hat {ic : Nat} {cls : String} (hg : ∀ w ∈ (vx_atS RX8 ic cls xNm).filter goodWord, w ∈ Ts) (hb : ∀ w ∈ (vx_atS RX8 ic cls xNm).filter (fun w => !goodWord w), w ∈ ([.declares (Bundle.initS "java/lang/RuntimeException"), .declares (Bundle.initS "java/lang/Exception"), .declares (Bundle.initS Bundle.tN), .castable cls cls] : List Cond)) (hts : ∀ w ∈ Ts, w.before args s = true) (hX : zX A s) (hc : va_Nw (.castable cls cls) s) : ∀ w ∈ vx_atS RX8 ic cls xNm, w.before args s = true :=
  vx_hat (fun w h => hts w (hg w h)) hb (vx_c (va_Nw.use rfl (hX.2.2.2.1 _ (by decide +kernel))) (vx_c (va_Nw.use rfl (hX.2.2.2.1 _ (by decide +kernel))) (vx_c (va_Nw.use rfl (hX.2.2.2.1 _ (by decide +kernel))) (vx_c (va_Nw.use rfl hc) vx_n))))
theorem z_xp (hP : va_P gw.1 vwCl cs H) (hD : va_D A cs) (hS : va_S A s.heap H locs) (hw : Pw cs) : ∀ t : State, s.vm.Alike t.vm → H.size ≤ t.heap.size → (∀ q : Nat, q < H.size → t.heap[q]? = H[q]?) → zXp gw E Pw A E s t := fun t _ hz hq => ⟨cs, hw, ⟨rfl, zP_iff.mpr (fun q h => (zP_iff.mp hP q h).kept (hq q.1 (zP_iff.mp hP q h).lt)), hD⟩, Nat.le_trans hS.1 hz, fun q h1 h2 => (hq q (Nat.lt_of_lt_of_le h1 hS.1)).trans (hS.2.1 q h1 h2)⟩
theorem z_throw {ik is ic : Nat} {text : String} (hx : p.tables.exec = Jvm.exec) (hb : c.code = cc) (hst : l.stackTraces = false) (hown : s.vm.findClass RX8 = some m.cls) (hfit : Bundle.fit E = true) (hk : (Cond.classLink RX8 ik E).before args s = true) (hini : (Cond.initialized E).before args s = true) (hX : zX A s) (hstr : (is, text) ∈ zStr) (hat : ∀ w ∈ vx_atS RX8 ic E xNm, w.before args s = true) (hgood : ∀ w ∈ Cond.classLink RX8 ik E :: Cond.initialized E :: vx_atS RX8 ic E xNm, vx_ot w = true) (hS : va_S A s.heap H locs) (hsize : ls.size = c.maxLocals)
    (d0 : decode cc pc = .ok (.new ik, 3)) (d3 : decode cc (pc + 3) = .ok (.dup, 1)) (d4 : decode cc (pc + 4) = .ok (.ldc is, 2)) (d6 : decode cc (pc + 6) = .ok (.invokespecial ic, 3)) (d9 : decode cc (pc + 9) = .ok (.athrow, 1)) (hout : ∀ x ∈ c.exceptionTable.toList, False)
    (hRframes : 5 < R.frames) (hRlocals : (rest.map fun v => v.category).sum + 82 ≤ R.locals) (hRcells : cells + 1 ≤ R.cells) (hRslots : slots + 6 ≤ R.slots) (hlk : meth.locks = false) (hP : va_P gw.1 vwCl cs H) (hD : va_D A cs) (hw : Pw cs) (hc : cells + 1 ≤ mc) (hs : slots + 6 ≤ ms) : W p l e R s m args below meth c H locs cells slots (vx_MQ below Qc (zXp gw E Pw A) args s mc ms A) (F0 m pc ls rest) := by
  obtain ⟨sa, hsa⟩ := hX.2.2.1 _ hstr
  exact vx_throwS (text := text) (sa := sa) (names := xNm) hx hb hst hown hfit (by decide +kernel) hk hini hsa hat hgood hX.1 hX.2.1 hS hsize d0 d3 d4 d6 d9 (fun x h => (hout x h).elim) hRframes hRlocals hRcells hRslots hlk (z_xp hP hD hS hw) hS.2.2 hc hs
theorem z_throwW {ik is ic : Nat} {text : String} (hx : p.tables.exec = Jvm.exec) (hb : c.code = cc) (hst : l.stackTraces = false) (hown : s.vm.findClass RX8 = some m.cls) (hfit : Bundle.fit E = true) (hk : (Cond.classLink RX8 ik E).before args s = true) (hini : (Cond.initialized E).before args s = true) (hX : zX A s) (hstr : (is, text) ∈ zStr) (hat : ∀ w ∈ vx_atS RX8 ic E xNm, w.before args s = true) (hgood : ∀ w ∈ Cond.classLink RX8 ik E :: Cond.initialized E :: vx_atS RX8 ic E xNm, vx_ot w = true) (hS : va_S A s.heap H locs) (hsize : ls.size = c.maxLocals)
    (d0 : decode cc pc = .ok (.new ik, 3)) (d3 : decode cc (pc + 3) = .ok (.dup, 1)) (d4 : decode cc (pc + 4) = .ok (.ldc_w is, 3)) (d7 : decode cc (pc + 7) = .ok (.invokespecial ic, 3)) (d10 : decode cc (pc + 10) = .ok (.athrow, 1)) (hout : ∀ x ∈ c.exceptionTable.toList, False)
    (hRframes : 5 < R.frames) (hRlocals : (rest.map fun v => v.category).sum + 82 ≤ R.locals) (hRcells : cells + 1 ≤ R.cells) (hRslots : slots + 6 ≤ R.slots) (hlk : meth.locks = false) (hP : va_P gw.1 vwCl cs H) (hD : va_D A cs) (hw : Pw cs) (hc : cells + 1 ≤ mc) (hs : slots + 6 ≤ ms) : W p l e R s m args below meth c H locs cells slots (vx_MQ below Qc (zXp gw E Pw A) args s mc ms A) (F0 m pc ls rest) := by
  obtain ⟨sa, hsa⟩ := hX.2.2.1 _ hstr
  exact vx_throwSW (text := text) (sa := sa) (names := xNm) hx hb hst hown hfit (by decide +kernel) hk hini hsa hat hgood hX.1 hX.2.1 hS hsize d0 d3 d4 d7 d10 (fun x h => (hout x h).elim) hRframes hRlocals hRcells hRslots hlk (z_xp hP hD hS hw) hS.2.2 hc hs
theorem z_goP {a : Array Value} (hr : va_Run p l e R s m args below meth c H locs cells slots mc ms (F0 m pc ls st0) rest (zQp gw Pv (va_A wc H.size) a) (va_A wc H.size)) (hP : va_P gw.1 vwCl ws H) (hD : va_D A ws) (hS : va_S A s.heap H locs) (hA : ∀ q, s.heap.size ≤ q → A q) (hs : zAr ws (wc ++ wr))
    (kk : ∀ (v : Option Value) (w : va_W) (H1 : Heap) (locs1 : List Loc), Pv v w → va_P gw.1 vwCl (wr ++ w) H1 → va_D A (wr ++ w) → va_S A s.heap H1 locs1 → W p l e R s m args below meth c H1 locs1 (cells + mc) (slots + ms) Q (F0 m (pc + 3) ls (v.toList ++ rest))) : W p l e R s m args below meth c H locs cells slots Q (F0 m pc ls st0) := by
  intro T hT X
  obtain ⟨v', st₀, t, T', L, h0, X', hL, e1, e2, ⟨⟨v, w, hv, hw, hP1, hD1⟩, hz, hk⟩, st⟩ := hr T hT X
  cases hv
  rw [h0] at hz hk
  have hF := z_freeA (hs.2 _ hD) hS hA
  rw [← e1] at hP1
  obtain ⟨hP2, hD2⟩ := zJoin (H1 := T'.heap) (hs.1 _ _ _ hP) (hs.2 _ hD) (fun q h1 h2 => by rw [e1]; exact hk q h1 h2) hF hP1 hD1
  obtain ⟨t2, a1, b1⟩ := kk _ w T'.heap (locs ++ L) hw hP2 hD2
    ⟨Nat.le_trans hS.1 (by rw [e1]; exact hz), fun q h1 h2 => by rw [e1, hk q (Nat.lt_of_lt_of_le h1 hS.1) (fun z => h2 (hF q z))]; exact hS.2.1 q h1 h2, fun q hq => by
      rcases List.mem_append.mp hq with h | h
      · exact hS.2.2 q h
      · exact hF _ (hL q h)⟩ T' rfl X'
  exact ⟨t2, st t2 a1, b1⟩
end ZTH
