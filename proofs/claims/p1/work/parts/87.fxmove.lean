/-! the fixed parts of both sides, when a break is moved: they stay one -/
def mvK (o : r4) (p : Nat) (how : Int) (f : Nat) : Prop := (how ≠ 2 → ¬ (o.1 f < (p : Int) ∧ (p : Int) < o.2.1 f)) ∧ (how ≠ 1 → ¬ (o.1 f = p ∨ o.2.1 f = p))
set_option maxHeartbeats 1000000 in
theorem FX_move {B B' : Nat → Nat → Int} (hs : same19 B B') {n fm t2 p : Nat} (hn : n ≤ 36) (hp : 1 ≤ p ∧ p < n) {how : Int} (hh : 0 ≤ how ∧ how ≤ 2) {o r2 : r4} (hF : FX B n fm o.1 o.2.1 o.2.2.1 o.2.2.2) (hix : ∃ ix : Nat → Nat, t2 ≤ fm ∧ (∀ f, f < t2 → ix f < fm ∧ mvK o p how (ix f) ∧ r4eq r2 o f (ix f)) ∧ (∀ f, f < fm → mvK o p how f → ∃ f', f' < t2 ∧ ix f' = f) ∧ ∀ f g, f < g → g < t2 → ix f < ix g) (h17 : B' 17 = uz (B 17) p how) (h19 : ∀ i, (i ≤ p ∧ mvP (B 19) p how i → B' 19 i = 0) ∧ (¬ (i ≤ p ∧ mvP (B 19) p how i) → B' 19 i = B 19 i)) : FX B' n t2 r2.1 r2.2.1 r2.2.2.1 r2.2.2.2 := by
  have hf := hF.2.1
  have hend : ∀ f, f < fm → B 19 (o.1 f).toNat / 1024 = o.2.1 f := by
    intro f hf'
    obtain ⟨⟨p1, p2, p3⟩, q1, _, q3, _⟩ := hf f hf'
    rw [q3]
    omega
  have hnz : ∀ f, f < fm → mvK o p how f → ¬ ((o.1 f).toNat ≤ p ∧ mvP (B 19) p how (o.1 f).toNat) := by
    rintro f hf' hk ⟨z1, z2⟩
    obtain ⟨⟨p1, p2, p3⟩, _⟩ := hf f hf'
    unfold mvP at z2
    rw [hend f hf'] at z2
    rcases z2 with ⟨⟨y1, y2⟩, y3⟩ | ⟨y1, y2⟩
    · exact hk.1 y3 ⟨by omega, by omega⟩
    · exact hk.2 y2 (by omega)
  refine FX_filter hs hF hix (fun f hf' hk => (h19 _).2 (hnz f hf' hk)) (fun f hf' hk => ?_) (fun f hf' hk => ?_) (fun f hf' hk q g1 g2 => ?_) (fun i hi hz => ?_)
  · obtain ⟨⟨p1, p2, p3⟩, _, _, _, q4, _⟩ := hf f hf'
    rcases q4 with z | z
    · exact Or.inl z
    · refine Or.inr ?_
      rw [h17]
      by_cases hpp : (o.1 f).toNat = p
      · rw [hpp, uz_at]
        by_cases h1 : how = 1
        · exact h1
        · exact absurd (Or.inl (by omega)) (hk.2 h1)
      · rw [uz_ne _ _ hpp]
        exact z
  · obtain ⟨⟨p1, p2, p3⟩, _, _, _, _, q5, _⟩ := hf f hf'
    rcases q5 with z | z
    · exact Or.inl z
    · refine Or.inr ?_
      rw [h17]
      by_cases hpp : (o.2.1 f).toNat = p
      · rw [hpp, uz_at]
        by_cases h1 : how = 1
        · exact h1
        · exact absurd (Or.inr (by omega)) (hk.2 h1)
      · rw [uz_ne _ _ hpp]
        exact z
  · obtain ⟨_, _, _, _, _, _, q6⟩ := hf f hf'
    rw [h17]
    by_cases hqp : q = p
    · rw [hqp, uz_at]
      by_cases h2 : how = 2
      · exact h2
      · exact absurd ⟨by omega, by omega⟩ (hk.1 h2)
    · rw [uz_ne _ _ hqp]
      exact q6 q g1 g2
  · have hno : ¬ (i ≤ p ∧ mvP (B 19) p how i) := fun z => hz ((h19 i).1 z)
    refine ⟨by rw [← (h19 i).2 hno]; exact hz, fun f hf' he => ?_⟩
    obtain ⟨⟨p1, p2, p3⟩, _⟩ := hf f hf'
    have h5 := hend f hf'
    rw [show (o.1 f).toNat = i by omega] at h5
    refine ⟨fun h2 z => hno ⟨by omega, Or.inl ⟨⟨by omega, by omega⟩, h2⟩⟩, fun h1 z => hno ?_⟩
    rcases z with z | z
    · exact ⟨by omega, Or.inr ⟨Or.inl (by omega), h1⟩⟩
    · exact ⟨by omega, Or.inr ⟨Or.inr (by omega), h1⟩⟩
/-- a letter more: the break behind a fixed part at the line's end comes with it -/
theorem FX_type {B B' : Nat → Nat → Int} (hs : ∀ j, j ≠ 16 → j ≠ 17 → B' j = B j) {n fm : Nat} (hn : n < 36) {o : r4} (hF : FX B n fm o.1 o.2.1 o.2.2.1 o.2.2.2) {v : Int} (h17 : B' 17 = uz (B 17) n v) (hv : (∃ f, f < fm ∧ o.2.1 f = n) → v = 1) : FX B' (n + 1) fm o.1 o.2.1 o.2.2.1 o.2.2.2 := by
  obtain ⟨hfm, hf, hback, hinj⟩ := hF
  have h19 : B' 19 = B 19 := hs 19 (by decide) (by decide)
  refine ⟨hfm, fun f hf' => ?_, fun i hi hz => hback i hi (by rw [← h19]; exact hz), hinj⟩
  obtain ⟨⟨p1, p2, p3⟩, q1, q2, q3, q4, q5, q6⟩ := hf f hf'
  refine ⟨⟨p1, p2, by push_cast; omega⟩, q1, ?_, by rw [h19]; exact q3, ?_, ?_, fun q g1 g2 => ?_⟩
  · unfold EV at q2 ⊢
    rw [hs 18 (by decide) (by decide), hs 11 (by decide) (by decide), hs 7 (by decide) (by decide)]
    exact q2
  · rcases q4 with z | z
    · exact Or.inl z
    · exact Or.inr (by rw [h17, uz_ne _ _ (by omega)]; exact z)
  · refine Or.inr ?_
    rw [h17]
    rcases q5 with z | z
    · rw [show (o.2.1 f).toNat = n by omega, uz_at]
      exact hv ⟨f, hf', z⟩
    · by_cases hz : (o.2.1 f).toNat = n
      · rw [hz, uz_at]
        exact hv ⟨f, hf', by omega⟩
      · rw [uz_ne _ _ hz]
        exact z
  · rw [h17, uz_ne _ _ (by omega)]
    exact q6 q g1 g2
