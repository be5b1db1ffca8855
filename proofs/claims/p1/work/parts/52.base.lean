/-! digits; entries; the least of a set -/
def blf (v : Int) : Nat → Nat
  | 0 => 0
  | n + 1 => if 0 < v / 2 ^ n then n + 1 else blf v n
def bl (v : Int) : Nat := blf v 31
theorem bl_next (v : Int) (k : Nat) : v / 2 ^ (k + 1) = v / 2 ^ k / 2 := by
  have h := pz_next 1 v k
  rw [Nat.one_mul, Nat.one_mul] at h
  exact h
theorem bl_mono {v : Int} {d : Nat} (h : v / 2 ^ d ≤ 0) : ∀ k, d ≤ k → v / 2 ^ k ≤ 0 := by
  intro k hk
  induction hk with
  | refl => exact h
  | step _ ih => rw [bl_next]; omega
theorem bl_of {v : Int} {d : Nat} (h1 : v / 2 ^ d ≤ 0) (h2 : ∀ j, j < d → 0 < v / 2 ^ j) : ∀ n, d ≤ n → blf v n = d := by
  intro n hn
  induction n with
  | zero =>
    have : d = 0 := by omega
    rw [this]
    rfl
  | succ n ih =>
    show (if 0 < v / 2 ^ n then n + 1 else blf v n) = d
    by_cases h : d ≤ n
    · have := bl_mono h1 n h
      rw [if_neg (by omega)]
      exact ih h
    · rw [if_pos (h2 n (by omega))]
      omega
theorem blf_le (v : Int) : ∀ n, blf v n ≤ n := by
  intro n
  induction n with
  | zero => exact Nat.le_refl _
  | succ n ih =>
    show (if 0 < v / 2 ^ n then n + 1 else blf v n) ≤ n + 1
    by_cases h : 0 < v / 2 ^ n
    · rw [if_pos h]
      exact Nat.le_refl _
    · rw [if_neg h]
      omega
theorem bl_le (v : Int) : bl v ≤ 31 := blf_le v 31
theorem bl_top {v : Int} (hv : inI v) : v / 2 ^ 31 ≤ 0 := by
  have h1 : (2 : Int) ^ 31 = 2147483648 := by decide
  have h2 : v / 2 ^ 31 < 1 := Int.ediv_lt_of_lt_mul (pz_pos 31) (by omega)
  omega
theorem q_digits {v : Int} (hv : inI v) : m_X8_digits v = some (bl v : Int) := by
  refine wp_out ?_
  unfold m_X8_digits
  refine wp_bind (P := fun u : Nat × Int => u.2 = (bl v : Int)) (wp_loop (fun k a => a = (k : Int) ∧ inI (v / 2 ^ k) ∧ ∀ j, j < k → 0 < v / 2 ^ j) 31 (by omega) ?_ ?_) ?_
  · refine ⟨rfl, ?_, fun j h => absurd h (by omega)⟩
    rw [Int.pow_zero, Int.ediv_one]
    exact hv
  · intro k a hk hs
    obtain ⟨e1, h1, h2⟩ := hs
    have ek : a.toNat = k := by omega
    unfold m_X8_digits_2
    refine wp_gd (by omega) (wp_if (fun c1 => ?_) (fun c1 => ?_))
    · refine wp_end (by decide) ?_
      show a = _
      have hk31 : k = 31 := by omega
      rw [hk31] at h2
      rw [e1, hk31, show bl v = 31 from bl_of (bl_top hv) h2 31 (Nat.le_refl _)]
    · rw [ek]
      refine wp_gd hv (wp_gd (by omega) (wp_gd h1 (wp_if (fun c2 => ?_) (fun c2 => ?_))))
      · refine wp_end (by decide) ?_
        show a = _
        rw [e1, show bl v = k from bl_of c2 h2 31 hk]
      · refine wp_vl (wp_go ⟨by omega, by show a + 1 = _; omega, ?_, ?_⟩)
        · rw [bl_next]
          omega
        · intro j hj
          by_cases h8 : j = k
          · rw [h8]
            omega
          · exact h2 j (by omega)
  · rintro ⟨t, x⟩ hu
    exact wp_some hu
theorem q_bitsOf {v : Int} (hv : inI v) : m_X9_bitsOf v = some (bl v : Int) := by
  refine wp_out ?_
  unfold m_X9_bitsOf
  refine wp_bind (P := fun u : Nat × Int × Int => u.2.1 = (bl v : Int)) (wp_loop (fun k a => a.1 = (k : Int) ∧ a.2 = v / 2 ^ k ∧ inI (v / 2 ^ k) ∧ ∀ j, j < k → 0 < v / 2 ^ j) 31 (by omega) ?_ ?_) ?_
  · refine ⟨rfl, ?_, ?_, fun j h => absurd h (by omega)⟩
    · show v = _
      rw [Int.pow_zero, Int.ediv_one]
    · rw [Int.pow_zero, Int.ediv_one]
      exact hv
  · intro k a hk hs
    obtain ⟨e1, e2, h1, h2⟩ := hs
    unfold m_X9_bitsOf_4
    rw [e2]
    refine wp_gd h1 (wp_if (fun c1 => ?_) (fun c1 => ?_))
    · refine wp_end (by decide) ?_
      show a.1 = _
      rw [e1, show bl v = k from bl_of c1 h2 31 hk]
    · have hk31 : k ≠ 31 := fun z => by
        have := bl_top hv
        rw [← z] at this
        omega
      refine wp_vl (wp_vl (wp_go ⟨by omega, by show a.1 + 1 = _; omega, ?_, ?_, ?_⟩))
      · show v / 2 ^ k / 2 = _
        rw [bl_next]
      · rw [bl_next]
        omega
      · intro j hj
        by_cases h8 : j = k
        · rw [h8]
          omega
        · exact h2 j (by omega)
  · rintro ⟨t, x, y⟩ hu
    exact wp_some hu
theorem q_wordOf {e : Int} (h : 0 ≤ e ∧ e < 540) : m_X8_wordOf e = some (e / 9) := by
  refine wp_out ?_
  unfold m_X8_wordOf
  refine wp_gd (by omega) (wp_if (fun c => by omega) (fun c => wp_some ?_))
  exact Int.tdiv_eq_ediv_of_nonneg h.1
theorem q_endingOf {e : Int} (h : 0 ≤ e ∧ e < 540) : m_X8_endingOf e = some (e % 9 - 1) := by
  refine wp_out ?_
  unfold m_X8_endingOf
  refine wp_gd (by omega) (wp_if (fun c => by omega) (fun c => wp_some ?_))
  rw [Int.tmod_eq_emod_of_nonneg h.1]
theorem q_wordOfG : m_X8_wordOf 540 = some (-1) := by decide
theorem q_endingOfG : m_X8_endingOf 540 = some (-1) := by decide
/-- the kind of an entry -/
def kd (K : Nat → Int) (e : Int) : Int := if e = 540 then 8 else K (e / 9).toNat
theorem q_kindOf {K : Nat → Int} {e : Int} (h : 0 ≤ e ∧ e ≤ 540) : m_X1_kindOf e K = some (kd K e) := by
  refine wp_out ?_
  unfold m_X1_kindOf kd
  refine wp_gd (by omega) (wp_if (fun c => ?_) (fun c => ?_))
  · refine wp_some ?_
    rw [if_pos c]
  · refine wp_eq (q_wordOf (by omega)) (wp_gd (by omega) (wp_some ?_))
    rw [if_neg c]
theorem q_placeOf {a b : Int} (ha : 0 ≤ a ∧ a < 100) (hb : 0 ≤ b ∧ b < 100) : m_X5_placeOf a b = some ((b * (b - 1) / 2 + a) * 9) := by
  have h1 : 0 ≤ b * (b - 1) := by
    by_cases h : b = 0
    · rw [h]; decide
    · exact Int.mul_nonneg hb.1 (by omega)
  have h2 : b * (b - 1) ≤ 100 * 100 := by
    by_cases h : b = 0
    · rw [h]; decide
    · exact Int.mul_le_mul (by omega) (by omega) (by omega) (by omega)
  refine wp_out ?_
  unfold m_X5_placeOf
  refine wp_gd (by omega) (wp_some ?_)
  rw [Int.tdiv_eq_ediv_of_nonneg h1]
theorem q_wordCost {w : Nat} {C Pr : Nat → Int} (hw : w < 60) (hc : inI (C w)) {x : Int} (e : x = w) : m_X1_wordCost x C Pr = some (Pr 2 - 8 * (bl (C w) : Int)) := by
  refine wp_out ?_
  unfold m_X1_wordCost
  have ex : x.toNat = w := by omega
  rw [ex]
  exact wp_gd (by omega) (wp_eq (q_digits hc) (wp_some rfl))
/-- v is the least of a set; far: there is none -/
def Lst (S : Int → Prop) (far v : Int) : Prop := (v = far ∧ ∀ x, ¬ S x) ∨ (v < far ∧ S v ∧ ∀ x, S x → v ≤ x)
theorem Lst.iff {S S' : Int → Prop} {far v : Int} (h : Lst S far v) (hS : ∀ x, S' x ↔ S x) : Lst S' far v := by
  rcases h with ⟨h1, h2⟩ | ⟨h1, h2, h3⟩
  · exact Or.inl ⟨h1, fun x z => h2 x ((hS x).mp z)⟩
  · exact Or.inr ⟨h1, (hS v).mpr h2, fun x z => h3 x ((hS x).mp z)⟩
theorem Lst.none {S : Int → Prop} {far : Int} (h : ∀ x, ¬ S x) : Lst S far far := Or.inl ⟨rfl, h⟩
theorem Lst.push {S S' : Int → Prop} {far v c : Int} (h : Lst S far v) (hc : c < far) (hS : ∀ x, S' x ↔ S x ∨ x = c) : Lst S' far (min v c) := by
  rcases h with ⟨h1, h2⟩ | ⟨h1, h2, h3⟩
  · refine Or.inr ?_
    rw [show min v c = c by omega]
    refine ⟨hc, (hS c).mpr (Or.inr rfl), fun x z => ?_⟩
    rcases (hS x).mp z with z | z
    · exact absurd z (h2 x)
    · omega
  · refine Or.inr ⟨by omega, ?_, fun x z => ?_⟩
    · by_cases h : v ≤ c
      · rw [show min v c = v by omega]
        exact (hS v).mpr (Or.inl h2)
      · rw [show min v c = c by omega]
        exact (hS c).mpr (Or.inr rfl)
    · rcases (hS x).mp z with z | z
      · have := h3 x z
        omega
      · omega
/-- a set whose every number is above one of a smaller set -/
theorem Lst.dom {S S' : Int → Prop} {far v : Int} (h : Lst S far v) (h1 : ∀ x, S x → S' x) (h2 : ∀ x, S' x → ∃ y, S y ∧ y ≤ x) : Lst S' far v := by
  rcases h with ⟨g1, g2⟩ | ⟨g1, g2, g3⟩
  · refine Or.inl ⟨g1, fun x z => ?_⟩
    obtain ⟨y, hy, _⟩ := h2 x z
    exact g2 y hy
  · refine Or.inr ⟨g1, h1 v g2, fun x z => ?_⟩
    obtain ⟨y, hy, hxy⟩ := h2 x z
    have := g3 y hy
    omega
theorem Lst.two {S : Int → Prop} {f1 f2 v1 v2 : Int} (h1 : Lst S f1 v1) (h2 : Lst S f2 v2) : (v1 = f1 ∧ v2 = f2) ∨ (v1 = v2 ∧ v1 < f1 ∧ v2 < f2 ∧ S v1) := by
  rcases h1 with ⟨a1, a2⟩ | ⟨a1, a2, a3⟩
  · rcases h2 with ⟨b1, b2⟩ | ⟨b1, b2, b3⟩
    · exact Or.inl ⟨a1, b1⟩
    · exact absurd b2 (a2 _)
  · rcases h2 with ⟨b1, b2⟩ | ⟨b1, b2, b3⟩
    · exact absurd a2 (b2 _)
    · have := a3 _ b2
      have := b3 _ a2
      exact Or.inr ⟨by omega, a1, b1, a2⟩
theorem Lst.le {S : Int → Prop} {far v x : Int} (h : Lst S far v) (hx : S x) : v ≤ x ∧ v < far := by
  rcases h with ⟨_, h2⟩ | ⟨h1, _, h3⟩
  · exact absurd hx (h2 x)
  · exact ⟨h3 x hx, h1⟩
theorem Lst.mem {S : Int → Prop} {far v : Int} (h : Lst S far v) (hv : v ≠ far) : S v := by
  rcases h with ⟨h1, _⟩ | ⟨_, h2, _⟩
  · exact absurd h1 hv
  · exact h2
theorem Lst.no {S : Int → Prop} {far : Int} (h : Lst S far far) : ∀ x, ¬ S x := by
  rcases h with ⟨_, h2⟩ | ⟨h1, _⟩
  · exact h2
  · omega
