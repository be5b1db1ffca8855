/-! how many parts are fixed -/
def cnt (f : Nat → Int) : Nat → Nat
  | 0 => 0
  | k + 1 => cnt f k + (if f k = 0 then 0 else 1)
theorem cnt_le (f : Nat → Int) : ∀ k, cnt f k ≤ k := by
  intro k
  induction k with
  | zero => exact Nat.le_refl _
  | succ k ih =>
    show cnt f k + (if f k = 0 then 0 else 1) ≤ k + 1
    by_cases h : f k = 0
    · rw [if_pos h]
      omega
    · rw [if_neg h]
      omega
theorem cnt_of (f : Nat → Int) : ∀ (N m : Nat) (g : Nat → Nat), (∀ i, i < m → g i < N ∧ f (g i) ≠ 0) → (∀ i j, i < m → j < m → g i = g j → i = j) → (∀ i, i < N → f i ≠ 0 → ∃ j, j < m ∧ g j = i) → cnt f N = m := by
  intro N
  induction N with
  | zero =>
    intro m g h1 _ _
    rcases Nat.eq_zero_or_pos m with h | h
    · rw [h]
      rfl
    · have := (h1 0 h).1
      omega
  | succ N ih =>
    intro m g h1 h2 h3
    show cnt f N + (if f N = 0 then 0 else 1) = m
    by_cases hN : f N = 0
    · rw [if_pos hN]
      refine ih m g (fun i hi => ⟨?_, (h1 i hi).2⟩) h2 (fun i hi hz => h3 i (by omega) hz)
      have h4 := h1 i hi
      have h5 : g i ≠ N := fun z => h4.2 (by rw [z]; exact hN)
      omega
    · rw [if_neg hN]
      obtain ⟨i0, hi0, hg⟩ := h3 N (by omega) hN
      have h6 := ih (m - 1) (fun j => if j = i0 then g (m - 1) else g j) (fun j hj => ?_) (fun j k hj hk he => ?_) (fun i hi hz => ?_)
      · omega
      · show (if j = i0 then g (m - 1) else g j) < N ∧ f (if j = i0 then g (m - 1) else g j) ≠ 0
        by_cases hji : j = i0
        · rw [if_pos hji]
          have h4 := h1 (m - 1) (by omega)
          have h5 : g (m - 1) ≠ N := fun z => by
            have := h2 (m - 1) i0 (by omega) hi0 (by omega)
            omega
          exact ⟨by omega, h4.2⟩
        · rw [if_neg hji]
          have h4 := h1 j (by omega)
          have h5 : g j ≠ N := fun z => hji (h2 j i0 (by omega) hi0 (by omega))
          exact ⟨by omega, h4.2⟩
      · have he : (if j = i0 then g (m - 1) else g j) = (if k = i0 then g (m - 1) else g k) := he
        by_cases hji : j = i0
        · by_cases hki : k = i0
          · omega
          · rw [if_pos hji, if_neg hki] at he
            have := h2 (m - 1) k (by omega) (by omega) he
            omega
        · by_cases hki : k = i0
          · rw [if_neg hji, if_pos hki] at he
            have := h2 j (m - 1) (by omega) (by omega) he
            omega
          · rw [if_neg hji, if_neg hki] at he
            exact h2 j k (by omega) (by omega) he
      · obtain ⟨j, hj, hgj⟩ := h3 i (by omega) hz
        have hji : j ≠ i0 := fun z => by rw [z] at hgj; omega
        by_cases hjm : j = m - 1
        · refine ⟨i0, by omega, ?_⟩
          show (if i0 = i0 then g (m - 1) else g i0) = i
          rw [if_pos rfl, ← hjm]
          exact hgj
        · refine ⟨j, by omega, ?_⟩
          show (if j = i0 then g (m - 1) else g j) = i
          rw [if_neg hji]
          exact hgj
theorem FX_cnt {B : Nat → Nat → Int} {n fm : Nat} (hn : n ≤ 36) {o : r4} (hF : FX B n fm o.1 o.2.1 o.2.2.1 o.2.2.2) : cnt (B 19) 36 = fm := by
  obtain ⟨hfm, hf, hback, hinj⟩ := hF
  refine cnt_of (B 19) 36 fm (fun f => (o.1 f).toNat) (fun f hf' => ?_) (fun f g hf' hg' he => ?_) (fun i hi hz => ?_)
  · obtain ⟨⟨p1, p2, p3⟩, q1, _, q3, _⟩ := hf f hf'
    show (o.1 f).toNat < 36 ∧ B 19 (o.1 f).toNat ≠ 0
    rw [q3]
    omega
  · have he : (o.1 f).toNat = (o.1 g).toNat := he
    obtain ⟨⟨p1, _⟩, _⟩ := hf f hf'
    obtain ⟨⟨q1, _⟩, _⟩ := hf g hg'
    exact hinj f g hf' hg' (by omega)
  · obtain ⟨f, f1, f2⟩ := hback i hi hz
    exact ⟨f, f1, by show (o.1 f).toNat = i; omega⟩
theorem q_fixedParts {fx : Nat → Int} (hfx : ∀ i, inI (fx i)) : m_X4_fixedParts fx = some (cnt fx 36 : Int) := by
  refine wp_out ?_
  unfold m_X4_fixedParts
  refine wp_bind (P := fun u : Nat × Int × Int => u.2.1 = (cnt fx 36 : Int)) (wp_loop (fun k y => y.2 = (k : Int) ∧ y.1 = (cnt fx k : Int)) 36 (by omega) ⟨rfl, rfl⟩ ?_) ?_
  · intro k y hk hs
    obtain ⟨a1, a2⟩ := hs
    have hc := cnt_le fx k
    unfold m_X4_fixedParts_4
    refine wp_gd (by omega) (wp_if (fun c1 => ?_) (fun c1 => ?_))
    · refine wp_end (by decide) ?_
      show y.1 = _
      rw [a2, show k = 36 by omega]
    · rw [show y.2.toNat = k by omega]
      refine wp_gd (by omega) (wp_gd (hfx _) (wp_if (fun c2 => ?_) (fun c2 => ?_)))
      · refine wp_vl (wp_go ⟨by omega, by show y.2 + 1 = _; omega, ?_⟩)
        show y.1 = ((cnt fx k + (if fx k = 0 then 0 else 1) : Nat) : Int)
        rw [if_pos c2]
        omega
      · refine wp_vl (wp_vl (wp_go ⟨by omega, by show y.2 + 1 = _; omega, ?_⟩))
        show y.1 + 1 = ((cnt fx k + (if fx k = 0 then 0 else 1) : Nat) : Int)
        rw [if_neg c2]
        omega
  · rintro ⟨t4, y1, y2⟩ hu
    exact wp_some hu
theorem q_fixedEndsAt {fx : Nat → Int} (hfx : ∀ i, inI (fx i)) {n : Nat} (hn : n ≤ 36) {x : Int} (e : x = n) : wp (m_X4_fixedEndsAt x fx) (fun v => (v = 1 ∧ ∃ i, i < n ∧ fx i / 1024 = n) ∨ (v = 0 ∧ ∀ i, i < n → fx i / 1024 ≠ n)) := by
  unfold m_X4_fixedEndsAt
  refine wp_bind (P := fun u : Nat × Int => (u.1 = 1 ∧ ∀ i, i < n → fx i / 1024 ≠ n) ∨ (u.1 = 2 ∧ ∃ i, i < n ∧ fx i / 1024 = n)) (wp_loop (fun k y => y = (k : Int) ∧ ∀ i, i < k → fx i / 1024 ≠ n) n (by omega) ⟨rfl, fun i h => absurd h (by omega)⟩ ?_) ?_
  · intro k y hk hs
    obtain ⟨a1, a2⟩ := hs
    have hI := hfx k
    unfold m_X4_fixedEndsAt_2
    refine wp_gd (by omega) (wp_gd (by omega) (wp_if (fun c1 => ?_) (fun c1 => ?_)))
    · exact wp_end (by decide) (Or.inl ⟨rfl, fun i hi => a2 i (by omega)⟩)
    · rw [show y.toNat = k by omega]
      refine wp_gd (by omega) (wp_gd hI (wp_gd (by omega) (wp_if (fun c2 => ?_) (fun c2 => ?_))))
      · exact wp_end (by decide) (Or.inr ⟨rfl, k, by omega, by omega⟩)
      · refine wp_vl (wp_go ⟨by omega, by show y + 1 = _; omega, fun i hi => ?_⟩)
        by_cases h : i = k
        · rw [h]
          omega
        · exact a2 i (by omega)
  · rintro ⟨t2, y⟩ hu
    have hu : (t2 = 1 ∧ ∀ i, i < n → fx i / 1024 ≠ n) ∨ (t2 = 2 ∧ ∃ i, i < n ∧ fx i / 1024 = n) := hu
    show wp (if t2 = 1 then some (0 : Int) else some 1) _
    rcases hu with ⟨u1, u2⟩ | ⟨u1, u2⟩
    · exact wp_if (fun _ => wp_some (Or.inr ⟨rfl, u2⟩)) (fun z => absurd u1 z)
    · exact wp_if (fun z => absurd z (by omega)) (fun _ => wp_some (Or.inl ⟨rfl, u2⟩))
