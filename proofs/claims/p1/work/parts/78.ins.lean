/-! a list of choices: one more is put in -/
abbrev oL : Type := Nat × (Nat → Int) × (Nat → Int)
/-- l2 is l1 with the entry x at the cost v put behind all that cost as much, at most twelve -/
def INS (l1 : oL) (x v : Int) (l2 : oL) : Prop := ∃ p : Nat, p ≤ l1.1 ∧ (p = 0 ∨ l1.2.2 (p - 1) ≤ v) ∧ (∀ i, p ≤ i → i < l1.1 → v < l1.2.2 i) ∧ ((12 ≤ p ∧ l2.1 = l1.1 ∧ ∀ i, i < l1.1 → l2.2.1 i = l1.2.1 i ∧ l2.2.2 i = l1.2.2 i) ∨ (p < 12 ∧ l2.1 = min (l1.1 + 1) 12 ∧ ∀ i, i < l2.1 → (i < p → l2.2.1 i = l1.2.1 i ∧ l2.2.2 i = l1.2.2 i) ∧ (i = p → l2.2.1 i = x ∧ l2.2.2 i = v) ∧ (p < i → l2.2.1 i = l1.2.1 (i - 1) ∧ l2.2.2 i = l1.2.2 (i - 1))))
def oEq (l1 l2 : oL) : Prop := l1.1 = l2.1 ∧ ∀ i, i < l1.1 → l1.2.1 i = l2.2.1 i ∧ l1.2.2 i = l2.2.2 i
theorem INS_one {l1 l2 m1 m2 : oL} {x v : Int} (h12 : l1.1 ≤ 12) (h : oEq l1 m1) (hl : INS l1 x v l2) (hm : INS m1 x v m2) : oEq l2 m2 := by
  obtain ⟨p, a1, a2, a3, a4⟩ := hl
  obtain ⟨q, b1, b2, b3, b4⟩ := hm
  obtain ⟨e1, e2⟩ := h
  have hpq : p = q := by
    rcases Nat.lt_trichotomy p q with hlt | heq | hgt
    · exfalso
      have h1 := a3 (q - 1) (by omega) (by omega)
      rcases b2 with z | z
      · omega
      · have h2 := (e2 (q - 1) (by omega)).2
        omega
    · exact heq
    · exfalso
      have h1 := b3 (p - 1) (by omega) (by omega)
      rcases a2 with z | z
      · omega
      · have h2 := (e2 (p - 1) (by omega)).2
        omega
  subst hpq
  rcases a4 with ⟨c1, c2, c3⟩ | ⟨c1, c2, c3⟩
  · rcases b4 with ⟨d1, d2, d3⟩ | ⟨d1, _⟩
    · refine ⟨by omega, fun i hi => ?_⟩
      have f1 := c3 i (by omega)
      have f2 := d3 i (by omega)
      have f3 := e2 i (by omega)
      rw [f1.1, f1.2, f2.1, f2.2]
      exact f3
    · omega
  · rcases b4 with ⟨d1, _⟩ | ⟨d1, d2, d3⟩
    · omega
    · refine ⟨by omega, fun i hi => ?_⟩
      have f1 := c3 i hi
      have f2 := d3 i (by omega)
      rcases Nat.lt_trichotomy i p with hlt | heq | hgt
      · have f3 := e2 i (by omega)
        rw [(f1.1 hlt).1, (f1.1 hlt).2, (f2.1 hlt).1, (f2.1 hlt).2]
        exact f3
      · rw [(f1.2.1 heq).1, (f1.2.1 heq).2, (f2.2.1 heq).1, (f2.2.1 heq).2]
        exact ⟨rfl, rfl⟩
      · have f3 := e2 (i - 1) (by omega)
        rw [(f1.2.2 hgt).1, (f1.2.2 hgt).2, (f2.2.2 hgt).1, (f2.2.2 hgt).2]
        exact f3
/-- a row moved up by one behind a place -/
def shf (f : Nat → Int) (p m : Nat) : Nat → Int := fun i => if p < i ∧ i < m then f (i - 1) else f i
set_option maxHeartbeats 2000000 in
theorem q_offerIn {len : Nat} {E C : Nat → Int} (hlen : len ≤ 12) (hC : ∀ i, inI (C i)) {x v ln : Int} (hv : inI v) (el : ln = len) (K ld rs : Nat → Int) :
    wp ((zloop (fun a => m_X2_offer_78 x v a K ld ln E C rs) FU ln).bind fun (_, x9) => m_X2_offer_103 x v x9 K ld ln E C rs) (fun u => ∃ len' : Nat, u.1 = len' ∧ len' ≤ 12 ∧ INS (len, E, C) x v (len', u.2.1, u.2.2) ∧ ((∀ i, inI (u.2.2 i)))) := by
  refine wp_bind (P := fun u : Nat × Int => ∃ p : Nat, u.2 = p ∧ p ≤ len ∧ (p = 0 ∨ C (p - 1) ≤ v) ∧ ∀ i, p ≤ i → i < len → v < C i) (wp_loop (fun k y => y = ((len - k : Nat) : Int) ∧ k ≤ len ∧ ∀ i, len - k ≤ i → i < len → v < C i) len (by omega) ⟨by omega, by omega, fun i h1 h2 => absurd h1 (by omega)⟩ ?_) ?_
  · intro k y hk hs
    obtain ⟨a1, a2, a3⟩ := hs
    unfold m_X2_offer_78
    refine wp_gd (by omega) (wp_if (fun c1 => ?_) (fun c1 => ?_))
    · exact wp_end (by decide) ⟨len - k, a1, by omega, Or.inl (by omega), a3⟩
    · rw [show (y - 1).toNat = len - k - 1 by omega]
      refine wp_gd (by omega) (wp_gd (hC _) (wp_gd hv (wp_if (fun c2 => ?_) (fun c2 => ?_))))
      · exact wp_end (by decide) ⟨len - k, a1, by omega, Or.inr c2, a3⟩
      · refine wp_vl (wp_go ⟨by omega, by show y + -1 = _; omega, by omega, fun i h1 h2 => ?_⟩)
        by_cases h : i = len - k - 1
        · rw [h]
          omega
        · exact a3 i (by omega) h2
  · rintro ⟨t78, x9⟩ ⟨p, e9, p1, p2, p3⟩
    have e9 : x9 = p := e9
    show wp (m_X2_offer_103 x v x9 K ld ln E C rs) _
    unfold m_X2_offer_103
    refine wp_gd (by omega) (wp_if (fun c1 => ?_) (fun c1 => ?_))
    · obtain ⟨m, em⟩ : ∃ m : Nat, m = min (len + 1) 12 := ⟨_, rfl⟩
      have hm : min (ln + 1) 12 = (m : Int) := by omega
      refine wp_gd (by omega) (wp_vl (wp_vl ?_))
      rw [hm]
      refine wp_bind (P := fun u : Nat × Int × (Nat → Int) × (Nat → Int) => u.2.2.1 = shf E p m ∧ u.2.2.2 = shf C p m) (wp_loop (fun k y => y.1 = (m : Int) - 1 - k ∧ y.2.1 = shf E (max p (m - 1 - k)) m ∧ y.2.2 = shf C (max p (m - 1 - k)) m) (m - 1 - p) (by omega) ⟨by show (m : Int) - 1 = _; omega, ?_, ?_⟩ ?_) ?_
      · funext i
        unfold shf
        rw [if_neg (by omega)]
      · funext i
        unfold shf
        rw [if_neg (by omega)]
      · intro k y hk hs
        obtain ⟨a1, a2, a3⟩ := hs
        unfold m_X2_offer_134
        refine wp_gd (by omega) (wp_gd (by omega) (wp_if (fun c2 => ?_) (fun c2 => ?_)))
        · refine wp_end (by decide) ?_
          rw [show max p (m - 1 - k) = p by omega] at a2 a3
          exact ⟨a2, a3⟩
        · have e1 : y.1.toNat = m - 1 - k := by omega
          have e2 : (y.1 - 1).toNat = m - 1 - k - 1 := by omega
          have hsh : ∀ f : Nat → Int, uz (shf f (max p (m - 1 - k)) m) (m - 1 - k) (shf f (max p (m - 1 - k)) m (m - 1 - k - 1)) = shf f (max p (m - 1 - (k + 1))) m := by
            intro f
            funext i
            have h0 : shf f (max p (m - 1 - k)) m (m - 1 - k - 1) = f (m - 1 - k - 1) := by
              unfold shf
              rw [if_neg (by omega)]
            rw [h0]
            unfold uz shf
            by_cases hi : i = m - 1 - k
            · rw [if_pos hi, if_pos (by omega), hi]
            · rw [if_neg hi]
              by_cases h3 : max p (m - 1 - k) < i ∧ i < m
              · rw [if_pos h3, if_pos (by omega)]
              · rw [if_neg h3, if_neg (by omega)]
          rw [e1, e2, a2, a3]
          refine wp_gd (by omega) (wp_gd (by omega) (wp_vl (wp_gd (by omega) (wp_gd (by omega) (wp_vl (wp_vl (wp_go ⟨by omega, by show y.1 + -1 = _; omega, hsh E, hsh C⟩)))))))
      · rintro ⟨t134, y10, E2, C2⟩ ⟨g1, g2⟩
        have g1 : E2 = shf E p m := g1
        have g2 : C2 = shf C p m := g2
        subst g1
        subst g2
        rw [show x9.toNat = p by omega]
        refine wp_gd (by omega) (wp_vl (wp_gd (by omega) (wp_vl (wp_some ⟨m, rfl, by omega, ⟨p, p1, p2, p3, Or.inr ⟨by omega, em, fun i hi => ?_⟩⟩, fun i => ?_⟩))))
        · have hi : i < m := hi
          refine ⟨fun h => ?_, fun h => ?_, fun h => ?_⟩
          · show uz (shf E p m) p x i = E i ∧ uz (shf C p m) p v i = C i
            rw [uz_ne _ _ (by omega), uz_ne _ _ (by omega)]
            unfold shf
            rw [if_neg (by omega), if_neg (by omega)]
            exact ⟨rfl, rfl⟩
          · show uz (shf E p m) p x i = x ∧ uz (shf C p m) p v i = v
            rw [h, uz_at, uz_at]
            exact ⟨rfl, rfl⟩
          · show uz (shf E p m) p x i = E (i - 1) ∧ uz (shf C p m) p v i = C (i - 1)
            rw [uz_ne _ _ (by omega), uz_ne _ _ (by omega)]
            unfold shf
            rw [if_pos ⟨h, hi⟩, if_pos ⟨h, hi⟩]
            exact ⟨rfl, rfl⟩
        · show inI (uz (shf C p m) p v i)
          refine uz_inI (fun j => ?_) hv i
          unfold shf
          by_cases h : p < j ∧ j < m
          · rw [if_pos h]
            exact hC _
          · rw [if_neg h]
            exact hC _
    · exact wp_some ⟨len, el, hlen, ⟨p, p1, p2, p3, Or.inl ⟨by omega, rfl, fun i _ => ⟨rfl, rfl⟩⟩⟩, hC⟩
