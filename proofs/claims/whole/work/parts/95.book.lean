/-! changes of the book, on both sides: prices, steps, words, endings -/
theorem z_price {B : Nat → Nat → Int} (hB : GB B) {x1 x2 : Int} (h1 : inI x1) (h2 : inI x2) (lk lp rk vc code ir im : Int) :
    (m_X8_price x1 x2 (B 13) lk lp rk vc = some (1, 0, B 13, lk, lp, rk, vc) ∧ m_X9_price x1 x2 code (B 13 0) (B 13 1) (B 13 2) ir im = some (0, 1, B 13 0, B 13 1, B 13 2, ir, im)) ∨
    (∃ (rv : Int) (r : Nat → Int), inI rv ∧ m_X8_price x1 x2 (B 13) lk lp rk vc = some (0, rv, r, 0, -1, 0, 0) ∧ m_X9_price x1 x2 code (B 13 0) (B 13 1) (B 13 2) ir im = some (rv, 0, r 0, r 1, r 2, 0, 0) ∧ (∀ i, inI (r i)) ∧ ∀ i, i < 3 → 0 ≤ r i ∧ r i ≤ 200) := by
  by_cases hc : 0 ≤ x1 ∧ x1 < 3 ∧ 0 ≤ x2 ∧ x2 ≤ 200
  · right
    have hI := fun i => hB.1 13 i (by decide) (by decide) (by decide)
    refine ⟨B 13 x1.toNat, uz (B 13) x1.toNat x2, hI _, ?_, ?_, uz_inI hI h2, ?_⟩
    · apply wp_out
      unfold m_X8_price m_X8_bookChanged m_X5_forget m_X8_lineChanged m_X3_forget m_X2_forget
      ((repeat' first | with_reducible refine wp_gd ?_ ?_ | with_reducible refine wp_vl ?_ | with_reducible refine wp_if (fun _ => ?_) (fun _ => ?_) | (with_reducible refine wp_eq rfl ?_; try dsimp only)) <;> first | omega | exact wp_some rfl)
    · apply wp_out
      have hx : x1 = 0 ∨ x1 = 1 ∨ x1 = 2 := by omega
      unfold m_X9_price m_X9_price_25 m_X9_price_57 m_X9_price_88 m_X9_changed m_X9_fail
      rcases hx with hx | hx | hx <;> subst hx <;> ((repeat' first | with_reducible refine wp_gd ?_ ?_ | with_reducible refine wp_vl ?_ | with_reducible refine wp_if (fun _ => ?_) (fun _ => ?_) | (with_reducible refine wp_eq rfl ?_; try dsimp only)) <;> first | omega | exact wp_some rfl)
    · intro i hi
      have := hB.2.2.2.2 i hi
      unfold uz
      by_cases hq : i = x1.toNat
      · rw [if_pos hq]
        omega
      · rw [if_neg hq]
        exact this
  · left
    refine ⟨?_, ?_⟩
    · apply wp_out
      unfold m_X8_price m_X8_bookChanged m_X5_forget m_X8_lineChanged m_X3_forget m_X2_forget
      ((repeat' first | with_reducible refine wp_gd ?_ ?_ | with_reducible refine wp_vl ?_ | with_reducible refine wp_if (fun _ => ?_) (fun _ => ?_) | (with_reducible refine wp_eq rfl ?_; try dsimp only)) <;> first | omega | exact wp_some rfl)
    · apply wp_out
      unfold m_X9_price m_X9_price_25 m_X9_price_57 m_X9_price_88 m_X9_changed m_X9_fail
      ((repeat' first | with_reducible refine wp_gd ?_ ?_ | with_reducible refine wp_vl ?_ | with_reducible refine wp_if (fun _ => ?_) (fun _ => ?_) | (with_reducible refine wp_eq rfl ?_; try dsimp only)) <;> first | omega | exact wp_some rfl)
theorem GB_price {B : Nat → Nat → Int} {r : Nat → Int} (hr : ∀ i, inI (r i)) (hr3 : ∀ i, i < 3 → 0 ≤ r i ∧ r i ≤ 200) (h : GB B) : GB (upB B 13 r) := by
  obtain ⟨h1, h2, h3, h4, h5⟩ := h
  refine ⟨fun k i a b c => ?_, h2, h3, h4, hr3⟩
  unfold upB
  by_cases hk : k = 13
  · rw [if_pos hk]
    exact hr i
  · rw [if_neg hk]
    exact h1 k i a b c
theorem GD_price {k : Nat} {B : Nat → Nat → Int} {sc r : Nat → Int} (hr : ∀ i, inI (r i)) (hr3 : ∀ i, i < 3 → 0 ≤ r i ∧ r i ≤ 200) (h : GD k B sc) : GD k (upB B 13 r) sc := by
  obtain ⟨h1, h2, h3, h4, h5⟩ := h
  exact ⟨GB_price hr hr3 h1, GW_cg rfl rfl rfl rfl rfl rfl rfl rfl rfl h2, GS_cg rfl h3, SCo_cg rfl rfl h4, h5⟩
theorem q_areKinds {a b : Int} (ha : inI a) (hb : inI b) : wp (m_X8_areKinds a b) (fun v => (v = 1 ∧ (0 ≤ a ∧ a < 9 ∧ 0 ≤ b ∧ b < 9)) ∨ (v = 0 ∧ ¬ (0 ≤ a ∧ a < 9 ∧ 0 ≤ b ∧ b < 9))) := by
  unfold m_X8_areKinds
  (repeat' first | with_reducible refine wp_gd ?_ ?_ | with_reducible refine wp_if (fun _ => ?_) (fun _ => ?_)) <;> first | omega | exact wp_some (Or.inl ⟨rfl, by omega⟩) | exact wp_some (Or.inr ⟨rfl, by omega⟩)
/-- a step's price and pairs, and its cost -/
theorem q_priceStep {x1 x2 : Int} {at' : Nat} (e1 : x1 = at') (h81 : at' < 81) (p q c : Nat → Int) (hq : inI (q at')) : m_X1_priceStep x1 x2 p q c = some (uz p at' x2, uz c at' (x2 - 2 * (bl (q at') : Int))) := by
  apply wp_out
  unfold m_X1_priceStep
  have e : x1.toNat = at' := by omega
  rw [e]
  refine wp_gd (by omega) (wp_vl (wp_gd (by omega) (wp_eq (q_digits hq) (wp_gd (by omega) (wp_vl (wp_some rfl))))))
theorem z_step {B : Nat → Nat → Int} (hB : GB B) {x1 x2 x3 : Int} (h1 : inI x1) (h2 : inI x2) (h3 : inI x3) (sc : Nat → Int) (lk lp rk code ir : Int) :
    (m_X8_step x1 x2 x3 (B 14) (B 15) sc lk lp rk = some (1, 0, B 14, sc, lk, lp, rk) ∧ m_X9_step x1 x2 x3 code (B 14) ir = some (0, 1, B 14, ir)) ∨
    (∃ (rv : Int) (p : Nat), p < 81 ∧ (0 ≤ x3 ∧ x3 ≤ 90) ∧ inI rv ∧ m_X8_step x1 x2 x3 (B 14) (B 15) sc lk lp rk = some (0, rv, uz (B 14) p x3, uz sc p (x3 - 2 * (bl (B 15 p) : Int)), 0, -1, 0) ∧ m_X9_step x1 x2 x3 code (B 14) ir = some (rv, 0, uz (B 14) p x3, 0)) := by
  have hK := q_areKinds h1 h2
  by_cases hc : (0 ≤ x1 ∧ x1 < 9 ∧ 0 ≤ x2 ∧ x2 < 9) ∧ 0 ≤ x3 ∧ x3 ≤ 90
  · right
    have hI := fun i => hB.1 14 i (by decide) (by decide) (by decide)
    have e2 : (9 * x1 + x2).toNat = (x1 * 9 + x2).toNat := by omega
    refine ⟨B 14 (x1 * 9 + x2).toNat, (x1 * 9 + x2).toNat, by omega, hc.2, hI _, ?_, ?_⟩
    · apply wp_out
      unfold m_X8_step m_X8_lineChanged m_X3_forget m_X2_forget
      refine wp_bind hK (fun v hv => ?_)
      rcases hv with ⟨rfl, hv⟩ | ⟨rfl, hv⟩
      · refine wp_gd (by decide) (wp_if (fun c => absurd c (by decide)) (fun _ => wp_gd h3 (wp_if (fun c => absurd c (by omega)) (fun _ => wp_if (fun _ => ?_) (fun c => absurd hc.2.2 c)))))
        refine wp_gd (by omega) (wp_vl (wp_eq (q_priceStep (at' := (x1 * 9 + x2).toNat) (by omega) (by omega) _ _ _ (hB.1 15 _ (by decide) (by decide) (by decide))) ?_))
        exact wp_some rfl
      · exact absurd hc.1 hv
    · apply wp_out
      unfold m_X9_step m_X9_step_35 m_X9_fail
      rw [e2]
      ((repeat' first | with_reducible refine wp_gd ?_ ?_ | with_reducible refine wp_vl ?_ | with_reducible refine wp_if (fun _ => ?_) (fun _ => ?_) | (with_reducible refine wp_eq rfl ?_; try dsimp only)) <;> first | omega | exact wp_some rfl)
  · left
    refine ⟨?_, ?_⟩
    · apply wp_out
      unfold m_X8_step
      refine wp_bind hK (fun v hv => ?_)
      rcases hv with ⟨rfl, hv⟩ | ⟨rfl, hv⟩
      · refine wp_gd (by decide) (wp_if (fun c => absurd c (by decide)) (fun _ => wp_gd h3 (wp_if (fun c => wp_some rfl) (fun c1 => wp_if (fun c2 => absurd ⟨hv, by omega, c2⟩ hc) (fun _ => wp_some rfl)))))
      · exact wp_gd (by decide) (wp_if (fun _ => wp_some rfl) (fun c => absurd rfl c))
    · apply wp_out
      unfold m_X9_step m_X9_step_35 m_X9_fail
      ((repeat' first | with_reducible refine wp_gd ?_ ?_ | with_reducible refine wp_vl ?_ | with_reducible refine wp_if (fun _ => ?_) (fun _ => ?_) | (with_reducible refine wp_eq rfl ?_; try dsimp only)) <;> first | omega | exact wp_some rfl)
theorem GD_step {k p : Nat} {B : Nat → Nat → Int} {sc : Nat → Int} {v : Int} (hv : 0 ≤ v ∧ v ≤ 90) (h : GD k B sc) : GD k (upB B 14 (uz (B 14) p v)) (uz sc p (v - 2 * (bl (B 15 p) : Int))) := by
  obtain ⟨h1, h2, h3, h4, h5⟩ := h
  have g1 : GB (upB B 14 (uz (B 14) p v)) := by
    obtain ⟨b1, b2, b3, b4, b5⟩ := h1
    refine ⟨fun k i a b c => ?_, b2, b3, b4, b5⟩
    unfold upB
    by_cases hk : k = 14
    · rw [if_pos hk]
      exact uz_inI (fun i => b1 14 i (by decide) (by decide) (by decide)) (by omega) i
    · rw [if_neg hk]
      exact b1 k i a b c
  refine ⟨g1, GW_cg rfl rfl rfl rfl rfl rfl rfl rfl rfl h2, ?_, ?_, h5⟩
  · intro i hi
    show 0 ≤ uz (B 14) p v i ∧ uz (B 14) p v i ≤ 90
    unfold uz
    by_cases hq : i = p
    · rw [if_pos hq]
      exact hv
    · rw [if_neg hq]
      exact h3 i hi
  · intro a b ha hb
    have := h4 a b ha hb
    unfold stp at this ⊢
    rw [if_neg (by omega)] at this ⊢
    show uz sc p _ (9 * a + b) = uz (B 14) p v (9 * (a : Int) + b).toNat - 2 * (bl (B 15 (9 * (a : Int) + b).toNat) : Int)
    have e : (9 * (a : Int) + b).toNat = 9 * a + b := by omega
    rw [e] at this ⊢
    unfold uz
    by_cases hq : 9 * a + b = p
    · rw [if_pos hq, if_pos hq, hq]
    · rw [if_neg hq, if_neg hq]
      exact this
