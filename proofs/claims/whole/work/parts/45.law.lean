/-! the law's own script, in Int; the state of its loop -/
abbrev zZ : Type := (Nat → Int) × (Nat → Nat → Int) × List zSv × Nat × Nat
def zfI : List Int → Nat → Int
  | [], _ => 0
  | x :: _, 0 => x
  | _ :: l, n + 1 => zfI l n
def zfR : List (Nat → Int) → Nat → Nat → Int
  | [], _ => fun _ => 0
  | x :: _, 0 => x
  | _ :: l, n + 1 => zfR l n
section ZLA
variable {p : Program} {l : Launch} {e : Env} {R : Room} {s : State} {m : MethodId} {args : Array Value} {below : List Frame} {meth : Method} {c : Code} {H : Heap} {locs : List Loc} {cells slots : Nat} {Q : State → Prop}
variable {cc : ByteArray} {pc : Nat} {ls : Array Slot} {rest : List Value} {A : Nat → Prop}
theorem z_sld {b L : Nat} {xs : Nat → Int32} {sc : Nat → Int} (hsc : ∀ j, xs j = zi (sc j)) (hx : p.tables.exec = Jvm.exec) (hb : c.code = cc) (hX : va_X b L xs s s.heap) (hbl : b < s.heap.size) (hbA : ¬ A b) (hS : va_S A s.heap H locs) {i : Int} (hi : 0 ≤ i ∧ i < (L : Int)) (hL : L ≤ 3584) (hd : decode cc pc = .ok (.iaload, 1))
    (kk : W p l e R s m args below meth c H locs cells slots Q (F0 m (pc + 1) ls (.int (zi (sc (Int.toNat i))) :: rest))) : W p l e R s m args below meth c H locs cells slots Q (F0 m pc ls (.int (zi i) :: .ref b :: rest)) := by
  refine va_sld hx hb hX hbl hbA hS (zi_in hi (by omega)) hd ?_
  rw [zi_clamp hi.1 (by omega), hsc]
  exact kk
theorem z_slen {b L : Nat} {xs : Nat → Int32} (hx : p.tables.exec = Jvm.exec) (hb : c.code = cc) (hX : va_X b L xs s s.heap) (hbl : b < s.heap.size) (hbA : ¬ A b) (hS : va_S A s.heap H locs) (hd : decode cc pc = .ok (.arraylength, 1))
    (kk : W p l e R s m args below meth c H locs cells slots Q (F0 m (pc + 1) ls (.int (zi (L : Int)) :: rest))) : W p l e R s m args below meth c H locs cells slots Q (F0 m pc ls (.ref b :: rest)) := by
  refine va_slen hx hb hX hbl hbA hS hd ?_
  rw [show Int32.ofNat L = zi (L : Int) from zi_nat L]
  exact kk
end ZLA
