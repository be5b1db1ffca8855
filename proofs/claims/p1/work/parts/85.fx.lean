/-! the fixed parts of both sides, when one is chosen -/
theorem pigeon : ∀ (N m : Nat) (g : Nat → Nat), (∀ i, i < m → g i < N) → (∀ i j, i < m → j < m → g i = g j → i = j) → m ≤ N := by
  intro N
  induction N with
  | zero =>
    intro m g h1 _
    rcases Nat.eq_zero_or_pos m with h | h
    · omega
    · have := h1 0 h
      omega
  | succ N ih =>
    intro m g h1 h2
    by_cases hex : ∃ i, i < m ∧ g i = N
    · obtain ⟨i, hi, hg⟩ := hex
      have h3 := ih (m - 1) (fun j => if j = i then g (m - 1) else g j) (fun j hj => ?_) (fun j k hj hk he => ?_)
      · omega
      · show (if j = i then g (m - 1) else g j) < N
        by_cases hji : j = i
        · rw [if_pos hji]
          have h4 := h1 (m - 1) (by omega)
          have h5 : g (m - 1) ≠ N := fun z => by
            have := h2 (m - 1) i (by omega) hi (by omega)
            omega
          omega
        · rw [if_neg hji]
          have h4 := h1 j (by omega)
          have h5 : g j ≠ N := fun z => hji (h2 j i (by omega) hi (by omega))
          omega
      · have he : (if j = i then g (m - 1) else g j) = (if k = i then g (m - 1) else g k) := he
        by_cases hji : j = i
        · by_cases hki : k = i
          · omega
          · rw [if_pos hji, if_neg hki] at he
            have := h2 (m - 1) k (by omega) (by omega) he
            omega
        · by_cases hki : k = i
          · rw [if_neg hji, if_pos hki] at he
            have := h2 j (m - 1) (by omega) (by omega) he
            omega
          · rw [if_neg hji, if_neg hki] at he
            exact h2 j k (by omega) (by omega) he
    · have := ih m g (fun i hi => by
        have h4 := h1 i hi
        have h5 : g i ≠ N := fun z => hex ⟨i, hi, z⟩
        omega) h2
      omega
/-- a book with another row -/
def upB (B : Nat → Nat → Int) (k : Nat) (r : Nat → Int) : Nat → Nat → Int := fun j => if j = k then r else B j
theorem upB_at (B : Nat → Nat → Int) (k : Nat) (r : Nat → Int) : upB B k r k = r := by
  unfold upB
  rw [if_pos rfl]
theorem upB_ne (B : Nat → Nat → Int) {k j : Nat} (r : Nat → Int) (h : j ≠ k) : upB B k r j = B j := by
  unfold upB
  rw [if_neg h]
/-- two books that differ in breaks and fixed parts alone -/
def same19 (B B' : Nat → Nat → Int) : Prop := ∀ j, j ≠ 17 → j ≠ 19 → B' j = B j
theorem EV_same {B B' : Nat → Nat → Int} (h : same19 B B') (e : Int) : EV B' e ↔ EV B e := by
  unfold EV
  rw [h 18 (by decide) (by decide), h 11 (by decide) (by decide), h 7 (by decide) (by decide)]
set_option maxHeartbeats 2000000 in
theorem FX_choose {B B' : Nat → Nat → Int} (hs : same19 B B') {n fm to a b : Nat} (hn : n ≤ 36) (hab : a < b) (hbn : b ≤ n) {o r : r4} {w e : Int} (hF : FX B n fm o.1 o.2.1 o.2.2.1 o.2.2.2) (hP : FP (fun f => ¬ (o.1 f < (b : Int) ∧ (a : Int) < o.2.1 f)) o fm to r) (hw : 0 ≤ w ∧ w ≤ 60 ∧ -1 ≤ e ∧ e < 8 ∧ (w = 60 → e = -1)) (hev : EV B (9 * w + e + 1)) (h19 : B' 19 = uz (zap (fun i => (a : Int) < B 19 i / 1024) (B 19) b) a (b * 1024 + (9 * w + e + 1))) (h17a : ∀ p, a < p → p < b → B' 17 p = 2) (h17b : 0 < a → B' 17 a = 1) (h17c : b < n → B' 17 b = 1) (h17d : ∀ p, (p < a ∨ b < p) → B' 17 p = B 17 p) :
    to < 36 ∧ FX B' n (to + 1) (uz r.1 to a) (uz r.2.1 to b) (uz r.2.2.1 to w) (uz r.2.2.2 to e) := by
  obtain ⟨hfm, hf, hback, hinj⟩ := hF
  obtain ⟨hto, hrest, ix, i1, i2, i3⟩ := hP
  have hK : ∀ f, f < to → (∃ g, g < fm ∧ r4eq r o f g ∧ (o.2.1 g ≤ a ∨ (b : Int) ≤ o.1 g)) := by
    intro f hf'
    obtain ⟨g1, g2, g3⟩ := i1 f hf'
    exact ⟨ix f, g1, g3, by omega⟩
  have hne : ∀ f, f < to → r.1 f ≠ a := by
    intro f hf' hz
    obtain ⟨g, g1, g2, g3⟩ := hK f hf'
    obtain ⟨⟨p1, p2, p3⟩, _⟩ := hf g g1
    have := g2.1
    omega
  have hinj2 : ∀ f g, f < to → g < to → r.1 f = r.1 g → f = g := by
    intro f g hf' hg' he
    obtain ⟨f1, _, f3⟩ := i1 f hf'
    obtain ⟨g1, _, g3⟩ := i1 g hg'
    have h1 : ix f = ix g := hinj _ _ f1 g1 (by rw [← f3.1, ← g3.1]; exact he)
    rcases Nat.lt_trichotomy f g with h | h | h
    · have := i3 f g h hg'
      omega
    · exact h
    · have := i3 g f h hf'
      omega
  have hrange : ∀ f, f < to → 0 ≤ r.1 f ∧ r.1 f < n := by
    intro f hf'
    obtain ⟨g, g1, g2, g3⟩ := hK f hf'
    obtain ⟨⟨p1, p2, p3⟩, _⟩ := hf g g1
    have := g2.1
    omega
  have ht : to + 1 ≤ 36 := by
    refine Nat.le_trans (pigeon n (to + 1) (fun i => if i = to then a else (r.1 i).toNat) (fun i hi => ?_) (fun i j hi hj he => ?_)) hn
    · show (if i = to then a else (r.1 i).toNat) < n
      by_cases h : i = to
      · rw [if_pos h]
        omega
      · rw [if_neg h]
        have := hrange i (by omega)
        omega
    · have he : (if i = to then a else (r.1 i).toNat) = (if j = to then a else (r.1 j).toNat) := he
      by_cases hi2 : i = to
      · by_cases hj2 : j = to
        · omega
        · rw [if_pos hi2, if_neg hj2] at he
          have h1 := hrange j (by omega)
          exact absurd (by omega) (hne j (by omega))
      · by_cases hj2 : j = to
        · rw [if_neg hi2, if_pos hj2] at he
          have h1 := hrange i (by omega)
          exact absurd (by omega) (hne i (by omega))
        · rw [if_neg hi2, if_neg hj2] at he
          have h1 := hrange i (by omega)
          have h2 := hrange j (by omega)
          exact hinj2 i j (by omega) (by omega) (by omega)
  refine ⟨by omega, ht, fun f hf' => ?_, fun i hi hz => ?_, fun f g hf' hg' he => ?_⟩
  · by_cases hft : f = to
    · rw [hft, uz_at, uz_at, uz_at, uz_at]
      refine ⟨by omega, by omega, (EV_same hs _).mpr hev, ?_, ?_, ?_, fun p h1 h2 => h17a p (by omega) (by omega)⟩
      · rw [h19, Int.toNat_natCast, uz_at]
        omega
      · rcases Nat.eq_zero_or_pos a with h | h
        · exact Or.inl (by omega)
        · exact Or.inr (by rw [Int.toNat_natCast]; exact h17b h)
      · by_cases h : b = n
        · exact Or.inl (by omega)
        · exact Or.inr (by rw [Int.toNat_natCast]; exact h17c (by omega))
    · rw [uz_ne _ _ hft, uz_ne _ _ hft, uz_ne _ _ hft, uz_ne _ _ hft]
      obtain ⟨g, g1, g2, g3⟩ := hK f (by omega)
      obtain ⟨⟨p1, p2, p3⟩, q1, q2, q3, q4, q5, q6⟩ := hf g g1
      rw [g2.1, g2.2.1, g2.2.2.1, g2.2.2.2]
      have hna : (o.1 g).toNat ≠ a := by
        have := hne f (by omega)
        rw [g2.1] at this
        omega
      refine ⟨⟨p1, p2, p3⟩, q1, (EV_same hs _).mpr q2, ?_, ?_, ?_, fun p h1 h2 => ?_⟩
      · rw [h19, uz_ne _ _ hna]
        unfold zap
        rw [if_neg ?_]
        · exact q3
        · rintro ⟨z1, z2⟩
          rw [q3] at z2
          have he : 9 * o.2.2.1 g + o.2.2.2 g + 1 ≤ 540 := by omega
          omega
      · rcases q4 with z | z
        · exact Or.inl z
        · refine Or.inr ?_
          by_cases hb : (o.1 g).toNat = b
          · rw [hb]
            exact h17c (by omega)
          · rw [h17d _ (by omega)]
            exact z
      · rcases q5 with z | z
        · exact Or.inl z
        · refine Or.inr ?_
          by_cases ha' : (o.2.1 g).toNat = a
          · rw [ha']
            exact h17b (by omega)
          · rw [h17d _ (by omega)]
            exact z
      · rw [h17d p (by omega)]
        exact q6 p h1 h2
  · rw [h19] at hz
    by_cases hia : i = a
    · exact ⟨to, by omega, by rw [uz_at, hia]⟩
    · rw [uz_ne _ _ hia] at hz
      unfold zap at hz
      by_cases hzz : i < b ∧ (a : Int) < B 19 i / 1024
      · rw [if_pos hzz] at hz
        exact absurd rfl hz
      · rw [if_neg hzz] at hz
        obtain ⟨f, f1, f2⟩ := hback i hi hz
        obtain ⟨⟨p1, p2, p3⟩, q1, q2, q3, _⟩ := hf f f1
        have hkeep : ¬ (o.1 f < (b : Int) ∧ (a : Int) < o.2.1 f) := by
          rintro ⟨z1, z2⟩
          refine hzz ⟨by omega, ?_⟩
          rw [show i = (o.1 f).toNat by omega, q3]
          omega
        obtain ⟨f', g1, g2⟩ := i2 f f1 hkeep
        have g3 := (i1 f' g1).2.2.1
        refine ⟨f', by omega, ?_⟩
        rw [uz_ne _ _ (by omega), g3, g2]
        exact f2
  · by_cases h1 : f = to
    · by_cases h2 : g = to
      · omega
      · rw [h1, uz_at, uz_ne _ _ h2] at he
        exact absurd he.symm (hne g (by omega))
    · by_cases h2 : g = to
      · rw [h2, uz_at, uz_ne _ _ h1] at he
        exact absurd he (hne f (by omega))
      · rw [uz_ne _ _ h1, uz_ne _ _ h2] at he
        exact hinj2 f g (by omega) (by omega) he
