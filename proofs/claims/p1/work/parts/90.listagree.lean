/-! the choices of both sides are one list -/
theorem La_ex {B : Nat → Nat → Int} {t : Nat → Int} (hB : GB B) (hS : GS B) {n a : Nat} (hn : n ≤ 36) (ha : a ≤ n) {ah : Nat → Int} (hA : AHD B t n ah) : ∃ La : Nat → Int, ∀ j : Nat, j ≤ 8 → Lst (fwd B ah a j) 134217728 (La j) := by
  have h : ∀ j : Nat, ∃ v : Int, j ≤ 8 → Lst (fwd B ah a j) 134217728 v := by
    intro j
    by_cases hj : j ≤ 8
    · obtain ⟨v, _, hv⟩ := q_leastAhead hB hS hn ha hA.1 rfl (k := (j : Int)) (by omega)
      exact ⟨v, fun _ => hv.1⟩
    · exact ⟨0, fun z => absurd z hj⟩
  exact ⟨fun j => Classical.choose (h j), fun j hj => Classical.choose_spec (h j) hj⟩
theorem list_agree {B : Nat → Nat → Int} {t : Nat → Int} (hW : GW B) {n a b : Nat} (hab : a < b) (hbn : b ≤ n) {tails leads rests ah rest E C La : Nat → Int} {olen : Int} {s : st4} (h1 : LDC B t n tails leads) (h2 : AHD B t n ah) (h3 : BRc B t n 0 rests) (h4 : BR B t n 0 rest) (hLa : ∀ j : Nat, j ≤ 8 → Lst (fwd B ah a j) 134217728 (La j)) (h5 : OLC B t a b leads rests olen E C) (h6 : JC (VL B t a b La (fun j => rest (10 * b + j)) 134217728 134217728) 541 s) : ∃ len : Nat, olen = len ∧ s.2.2.2 = len ∧ len ≤ 12 ∧ ∀ i, i < len → E i = pent s.1 s.2.1 i ∧ C i = s.2.2.1 i ∧ (0 ≤ s.1 i ∧ s.1 i ≤ 60) ∧ (-1 ≤ s.2.1 i ∧ s.2.1 i < 8) ∧ (s.1 i = 60 → s.2.1 i = -1) := by
  obtain ⟨len, a1, a2, a3⟩ := h5
  obtain ⟨⟨ln2, b1, b2, b3, b4⟩, _⟩ := h6
  have hL : ∀ j : Nat, j ≤ 8 → (leads (9 * a + j) = 268435456 ∧ La j = 134217728) ∨ (leads (9 * a + j) = La j ∧ leads (9 * a + j) < 268435456 ∧ La j < 134217728) := fun j hj => leads_agree h1 h2 a (by omega) j hj _ (hLa j hj)
  have hR : ∀ j : Nat, j ≤ 8 → (rests (9 * b + j) = 268435456 ∧ rest (10 * b + j) = 134217728) ∨ (rests (9 * b + j) = rest (10 * b + j) ∧ rests (9 * b + j) < 268435456 ∧ rest (10 * b + j) < 134217728) := fun j hj => rests_agree hW h3 h4 (n - b) b (by omega) j hj
  have hV : ∀ i v, VL B t a b (fun j => leads (9 * a + j)) (fun j => rests (9 * b + j)) 268435456 268435456 i v ↔ VL B t a b La (fun j => rest (10 * b + j)) 134217728 134217728 i v := by
    intro i v
    constructor
    · rintro ⟨e1, c, e2, e3, e4, e5⟩
      have hk := kd_bd hW e1
      have hl := hL (kd (B 6) i).toNat (by omega)
      have hr := hR (kd (B 6) i).toNat (by omega)
      have e3 : leads (9 * a + (kd (B 6) i).toNat) < 268435456 := e3
      have e4 : rests (9 * b + (kd (B 6) i).toNat) < 268435456 := e4
      have e5 : v = leads (9 * a + (kd (B 6) i).toNat) + c + rests (9 * b + (kd (B 6) i).toNat) := e5
      refine ⟨e1, c, e2, by omega, ?_, ?_⟩
      · show rest (10 * b + (kd (B 6) i).toNat) < 134217728
        omega
      · show v = La (kd (B 6) i).toNat + c + rest (10 * b + (kd (B 6) i).toNat)
        omega
    · rintro ⟨e1, c, e2, e3, e4, e5⟩
      have hk := kd_bd hW e1
      have hl := hL (kd (B 6) i).toNat (by omega)
      have hr := hR (kd (B 6) i).toNat (by omega)
      have e4 : rest (10 * b + (kd (B 6) i).toNat) < 134217728 := e4
      have e5 : v = La (kd (B 6) i).toNat + c + rest (10 * b + (kd (B 6) i).toNat) := e5
      refine ⟨e1, c, e2, ?_, ?_, ?_⟩
      · show leads (9 * a + (kd (B 6) i).toNat) < 268435456
        omega
      · show rests (9 * b + (kd (B 6) i).toNat) < 268435456
        omega
      · show v = leads (9 * a + (kd (B 6) i).toNat) + c + rests (9 * b + (kd (B 6) i).toNat)
        omega
  obtain ⟨o1, o2⟩ := OFS_one hV VL_one a3 b3
  have o1 : len = ln2 := o1
  subst o1
  exact ⟨len, a1, b1, a2, fun i hi => ⟨(o2 i hi).1, (o2 i hi).2, b4 i hi⟩⟩
