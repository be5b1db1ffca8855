/-! rows that make cells; a contract whose cells come with new addresses -/
def zQe (gw : zG) (Pw : va_W → Prop) (A : Nat → Prop) : Array Value → State → Outcome → State → Prop := fun _ st oc t => (∃ w, oc = .returned none ∧ Pw w ∧ va_P gw.1 vwCl w t.heap ∧ va_D A w) ∧ va_F A st t
abbrev zR (gw : zG) (a n : Nat) (f : Nat → Option Nat) : Nat × va_E := (a, .inl (gw.2.2.2, n, .inr (.inr (.inr (.inr f)))))
theorem z_metE {l : Launch} {y : MethodName} {ws ws' : List Cond} {rm : Room} {cc : ByteArray} {maxL mc ms : Nat} {ret : Option FieldType} {gw : zG} {av : List Value} {lv : List (Nat × Value)} {cs : va_W} {Pw : va_W → Prop} {sz : Nat} {X : State → Prop} (hy : plainName y.cls = true) (hw : ws = Cond.code y cc maxL ret :: ws') (hl : (lg_sl av).length ≤ maxL) (hlv : lv_args 0 av = lv)
    (body : ∀ (p : Program) (e : Env) (s : State) (m : MethodId) (args : Array Value) (below : List Frame) (meth : Method) (c : Code) (A : Nat → Prop), zF p s m args meth c A gw cc maxL ret ws y → s.heap.size = sz → X s → ∀ ls : Array Slot, lv_has ls maxL lv → va_P gw.1 vwCl cs s.heap → va_D A cs → W p l e rm s m args below meth c s.heap [] 0 0 (MQ below (zQe gw Pw A) args s mc ms A) (F0 m 0 ls [])) :
    Met l y ws rm (va_Pc av (fun U => zPre gw cs sz U ∧ X U)) (zQe gw Pw (va_A cs sz)) mc ms (va_A cs sz) := by
  refine Met.ofW (cc := cc) (maxL := maxL) (ret := ret) hy hw ?_
  intro p e s m args below meth c s₁ B hml hv
  obtain ⟨rfl, ⟨hsz, hP, hD0, hK⟩, hX⟩ := hv
  have hD := hD0.self (sz := sz)
  have hl' := lv_entry av (n := maxL) hl
  rw [lg_entry_eq]
  rw [hlv] at hl'
  exact body p e s m _ below meth c (va_A cs sz) ⟨B.exec, B.bytes, hml, B.returns, findClass_of_methodNamed B.named, atoms_spec (ws := ws) B.pre, B.notSynchronized, hK, fun q h => Or.inr (by rw [← hsz]; exact h), (name_of_methodNamed B.named B.method).1⟩ hsz hX _ hl' hP hD
section ZM
variable {p : Program} {l : Launch} {e : Env} {R : Room} {s : State} {m : MethodId} {args : Array Value} {below : List Frame} {meth : Method} {c : Code} {H : Heap} {locs : List Loc} {cells slots : Nat} {Q : State → Prop}
variable {cc : ByteArray} {pc : Nat} {ls : Array Slot} {rest st0 : List Value} {gw : zG} {ws : va_W} {A : Nat → Prop} {own : String} {index : Nat}
theorem z_vretE {Pw : va_W → Prop} {cs : va_W} (hx : p.tables.exec = Jvm.exec) (hb : c.code = cc) (hr : meth.sig.returnType = none) (hlk : meth.locks = false) (hP : va_P gw.1 vwCl cs H) (hD : va_D A cs) (hS : va_S A s.heap H locs) (hw : Pw cs) (hd : decode cc pc = .ok (.return_, 1)) : W p l e R s m args below meth c H locs cells slots (MQ below (zQe gw Pw A) args s cells slots A) (F0 m pc ls []) :=
  W.vret hx hb hr (fun t ht _ => ⟨⟨cs, rfl, hw, by rw [ht]; exact hP, hD⟩, hS.F ht⟩) hS.2.2 hd hlk
theorem z_nn {n : Int} {N : Nat} (hn : n = (N : Int)) (hN : N ≤ 134217728) : ¬ zi n < 0 ∧ (zi n).toNatClampNeg = N := by
  subst hn
  refine ⟨fun q => ?_, ?_⟩
  · rw [zi_z, zi_lt ⟨by omega, by omega⟩ (by decide)] at q
    omega
  · rw [zi_clamp (by omega) (by omega)]
    omega
theorem z_newi (hx : p.tables.exec = Jvm.exec) (hb : c.code = cc) (harr : (Cond.arrayClass .int).before args s = true) (hK : zK gw s) (hP : va_P gw.1 vwCl ws H) (hD : va_D A ws) (hS : va_S A s.heap H locs) (hA : ∀ q, s.heap.size ≤ q → A q) {n : Int} {N : Nat} (hn : n = (N : Int)) (hN : N ≤ 134217728) (hc : cells + 1 ≤ R.cells) (hs : slots + N ≤ R.slots) (hd : decode cc pc = .ok (.newarray .int, 2))
    (kk : ∀ (q : Nat) (H1 : Heap), va_P gw.1 vwCl (ws ++ [zA gw q N (fun _ => 0)]) H1 → va_D A (ws ++ [zA gw q N (fun _ => 0)]) → va_S A s.heap H1 locs → W p l e R s m args below meth c H1 locs (cells + 1) (slots + N) Q (F0 m (pc + 2) ls (.ref q :: rest))) : W p l e R s m args below meth c H locs cells slots Q (F0 m pc ls (.int (zi n) :: rest)) := by
  obtain ⟨h1, h2⟩ := z_nn hn hN
  refine va_newa (atype := .int) (ty := .int) (a0 := (N, .inl (fun _ => zi 0))) hx hb harr rfl hK.1 hP hD hS hA (fun cA => by rw [← zi_z]; rfl) h1 h2 (show N * 4 ≤ 536870912 by omega) hc hs hd fun q cA H1 hK2 hP2 hD2 hS2 => ?_
  have e1 := (hK2.2 3 _ rfl).2
  have e2 := (hK.1.2 0 _ rfl).2
  have e3 : cA = gw.2.1 := Option.some.inj (e1.symm.trans e2)
  subst e3
  exact kk q H1 hP2 hD2 hS2
theorem z_newl (hx : p.tables.exec = Jvm.exec) (hb : c.code = cc) (harr : (Cond.arrayClass .long).before args s = true) (hK : zK gw s) (hP : va_P gw.1 vwCl ws H) (hD : va_D A ws) (hS : va_S A s.heap H locs) (hA : ∀ q, s.heap.size ≤ q → A q) {n : Int} {N : Nat} (hn : n = (N : Int)) (hN : N ≤ 67108864) (hc : cells + 1 ≤ R.cells) (hs : slots + N ≤ R.slots) (hd : decode cc pc = .ok (.newarray .long, 2))
    (kk : ∀ (q : Nat) (H1 : Heap), va_P gw.1 vwCl (ws ++ [zB gw q N (fun _ => 0)]) H1 → va_D A (ws ++ [zB gw q N (fun _ => 0)]) → va_S A s.heap H1 locs → W p l e R s m args below meth c H1 locs (cells + 1) (slots + N) Q (F0 m (pc + 2) ls (.ref q :: rest))) : W p l e R s m args below meth c H locs cells slots Q (F0 m pc ls (.int (zi n) :: rest)) := by
  obtain ⟨h1, h2⟩ := z_nn hn (by omega)
  refine va_newa (atype := .long) (ty := .long) (a0 := (N, .inr (.inl (fun _ => zl 0)))) hx hb harr rfl hK.1 hP hD hS hA (fun cA => by rw [show zl 0 = 0 by decide]; rfl) h1 h2 (show N * 8 ≤ 536870912 by omega) hc hs hd fun q cA H1 hK2 hP2 hD2 hS2 => ?_
  have e1 := (hK2.2 3 _ rfl).2
  have e2 := (hK.1.2 1 _ rfl).2
  have e3 : cA = gw.2.2.1 := Option.some.inj (e1.symm.trans e2)
  subst e3
  exact kk q H1 hP2 hD2 hS2
theorem z_newq (hx : p.tables.exec = Jvm.exec) (hb : c.code = cc) (hown : s.vm.findClass own = some m.cls) (hcl : (Cond.classLink own index RX4).before args s = true) (ho : va_AO RX4 s) (hK : zK gw s) (hP : va_P gw.1 vwCl ws H) (hD : va_D A ws) (hS : va_S A s.heap H locs) (hA : ∀ q, s.heap.size ≤ q → A q) {n : Int} {N : Nat} (hn : n = (N : Int)) (hN : N ≤ 67108864) (hc : cells + 1 ≤ R.cells) (hs : slots + N ≤ R.slots) (hd : decode cc pc = .ok (.anewarray index, 3))
    (kk : ∀ (q : Nat) (H1 : Heap), va_P gw.1 vwCl (ws ++ [zR gw q N (fun _ => none)]) H1 → va_D A (ws ++ [zR gw q N (fun _ => none)]) → va_S A s.heap H1 locs → W p l e R s m args below meth c H1 locs (cells + 1) (slots + N) Q (F0 m (pc + 3) ls (.ref q :: rest))) : W p l e R s m args below meth c H locs cells slots Q (F0 m pc ls (.int (zi n) :: rest)) := by
  obtain ⟨h1, h2⟩ := z_nn hn (by omega)
  refine va_newq hx hb hown hcl ho hK.1 hP hD hS hA h1 h2 (by omega) hc hs hd fun q cA H1 hK2 hP2 hD2 hS2 => ?_
  have e1 := (hK2.2 3 _ rfl).2
  have e2 := (hK.1.2 2 _ rfl).2
  obtain ⟨-, -, -, -, -, f1⟩ := e1
  obtain ⟨-, -, -, -, -, f2⟩ := e2
  have e3 : cA = gw.2.2.2 := Option.some.inj (f1.symm.trans f2)
  subst e3
  exact kk q H1 hP2 hD2 hS2
end ZM
