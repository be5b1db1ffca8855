/-! the reference's fixed parts: some are let go -/
abbrev r4 : Type := (Nat → Int) × (Nat → Int) × (Nat → Int) × (Nat → Int)
abbrev r4eq (r o : r4) (i j : Nat) : Prop := r.1 i = o.1 j ∧ r.2.1 i = o.2.1 j ∧ r.2.2.1 i = o.2.2.1 j ∧ r.2.2.2 i = o.2.2.2 j
/-- of the first k those that are kept stand at the row's begin, in their order -/
def FP (keep : Nat → Prop) (o : r4) (k to : Nat) (r : r4) : Prop := to ≤ k ∧ (∀ i, k ≤ i → r4eq r o i i) ∧ ∃ ix : Nat → Nat, (∀ f, f < to → ix f < k ∧ keep (ix f) ∧ r4eq r o f (ix f)) ∧ (∀ f, f < k → keep f → ∃ f', f' < to ∧ ix f' = f) ∧ ∀ f g, f < g → g < to → ix f < ix g
theorem FP.skip {keep : Nat → Prop} {o r : r4} {k to : Nat} (h : FP keep o k to r) (hk : ¬ keep k) : FP keep o (k + 1) to r := by
  obtain ⟨h1, h2, ix, h3, h4, h5⟩ := h
  refine ⟨by omega, fun i hi => h2 i (by omega), ix, fun f hf => ⟨by have := (h3 f hf).1; omega, (h3 f hf).2⟩, fun f hf hkf => ?_, h5⟩
  by_cases hfk : f = k
  · subst hfk
    exact absurd hkf hk
  · exact h4 f (by omega) hkf
theorem FP.keep {keep : Nat → Prop} {o r : r4} {k to : Nat} (h : FP keep o k to r) (hk : keep k) : FP keep o (k + 1) (to + 1) (uz r.1 to (r.1 k), uz r.2.1 to (r.2.1 k), uz r.2.2.1 to (r.2.2.1 k), uz r.2.2.2 to (r.2.2.2 k)) := by
  obtain ⟨h1, h2, ix, h3, h4, h5⟩ := h
  refine ⟨by omega, fun i hi => ?_, fun f => if f = to then k else ix f, fun f hf => ?_, fun f hf hkf => ?_, fun f g hfg hg => ?_⟩
  · show uz r.1 to (r.1 k) i = o.1 i ∧ uz r.2.1 to (r.2.1 k) i = o.2.1 i ∧ uz r.2.2.1 to (r.2.2.1 k) i = o.2.2.1 i ∧ uz r.2.2.2 to (r.2.2.2 k) i = o.2.2.2 i
    rw [uz_ne _ _ (by omega), uz_ne _ _ (by omega), uz_ne _ _ (by omega), uz_ne _ _ (by omega)]
    exact h2 i (by omega)
  · show (if f = to then k else ix f) < k + 1 ∧ keep (if f = to then k else ix f) ∧ (uz r.1 to (r.1 k) f = o.1 (if f = to then k else ix f) ∧ uz r.2.1 to (r.2.1 k) f = o.2.1 (if f = to then k else ix f) ∧ uz r.2.2.1 to (r.2.2.1 k) f = o.2.2.1 (if f = to then k else ix f) ∧ uz r.2.2.2 to (r.2.2.2 k) f = o.2.2.2 (if f = to then k else ix f))
    by_cases hft : f = to
    · rw [if_pos hft, hft, uz_at, uz_at, uz_at, uz_at]
      exact ⟨by omega, hk, h2 k (by omega)⟩
    · rw [if_neg hft, uz_ne _ _ hft, uz_ne _ _ hft, uz_ne _ _ hft, uz_ne _ _ hft]
      obtain ⟨g1, g2, g3⟩ := h3 f (by omega)
      exact ⟨by omega, g2, g3⟩
  · by_cases hfk : f = k
    · exact ⟨to, by omega, by show (if to = to then k else ix to) = f; rw [if_pos rfl, hfk]⟩
    · obtain ⟨f', g1, g2⟩ := h4 f (by omega) hkf
      exact ⟨f', by omega, by show (if f' = to then k else ix f') = f; rw [if_neg (by omega)]; exact g2⟩
  · show (if f = to then k else ix f) < (if g = to then k else ix g)
    by_cases hgt : g = to
    · rw [if_neg (by omega), if_pos hgt]
      exact (h3 f (by omega)).1
    · rw [if_neg (by omega), if_neg hgt]
      exact h5 f g hfg (by omega)
theorem FP.start {keep : Nat → Prop} {o : r4} : FP keep o 0 0 o := ⟨Nat.le_refl _, fun i _ => ⟨rfl, rfl, rfl, rfl⟩, fun f => f, fun f h => absurd h (by omega), fun f h => absurd h (by omega), fun f g _ h => absurd h (by omega)⟩
theorem q_keepFixed {x1 x2 : Int} {k to : Nat} (e1 : x1 = k) (e2 : x2 = to) (hk : k < 36) (ht : to < 36) (r : r4) : m_X9_keepFixed x1 x2 r.1 r.2.1 r.2.2.1 r.2.2.2 = some (uz r.1 to (r.1 k), uz r.2.1 to (r.2.1 k), uz r.2.2.1 to (r.2.2.1 k), uz r.2.2.2 to (r.2.2.2 k)) := by
  refine wp_out ?_
  unfold m_X9_keepFixed
  rw [show x1.toNat = k by omega, show x2.toNat = to by omega]
  exact wp_gd (by omega) (wp_gd (by omega) (wp_vl (wp_gd (by omega) (wp_gd (by omega) (wp_vl (wp_gd (by omega) (wp_gd (by omega) (wp_vl (wp_gd (by omega) (wp_gd (by omega) (wp_vl (wp_some rfl))))))))))))
abbrev i4 (r : r4) : Prop := ∀ i, inI (r.1 i) ∧ inI (r.2.1 i) ∧ inI (r.2.2.1 i) ∧ inI (r.2.2.2 i)
theorem r4_inI {r : r4} {k to : Nat} (h : i4 r) : i4 (uz r.1 to (r.1 k), uz r.2.1 to (r.2.1 k), uz r.2.2.1 to (r.2.2.1 k), uz r.2.2.2 to (r.2.2.2 k)) := fun i => ⟨uz_inI (fun j => (h j).1) (h k).1 i, uz_inI (fun j => (h j).2.1) (h k).2.1 i, uz_inI (fun j => (h j).2.2.1) (h k).2.2.1 i, uz_inI (fun j => (h j).2.2.2) (h k).2.2.2 i⟩
set_option maxHeartbeats 1000000 in
theorem q_unfix {fm : Nat} (hfm : fm ≤ 36) {o : r4} (hI : i4 o) {x1 x2 mm : Int} (h1 : inI x1) (h2 : inI x2) (em : mm = fm) : wp (m_X9_unfix x1 x2 mm o.1 o.2.1 o.2.2.1 o.2.2.2) (fun u => ∃ to : Nat, u.1 = to ∧ FP (fun f => ¬ (o.1 f < x2 ∧ x1 < o.2.1 f)) o fm to u.2 ∧ i4 u.2) := by
  unfold m_X9_unfix
  refine wp_bind (P := fun u : Nat × Int × Int × r4 => ∃ to : Nat, u.2.1 = to ∧ FP (fun f => ¬ (o.1 f < x2 ∧ x1 < o.2.1 f)) o fm to u.2.2.2 ∧ i4 u.2.2.2) (wp_loop (fun k y => y.2.1 = (k : Int) ∧ (∃ to : Nat, y.1 = to ∧ FP (fun f => ¬ (o.1 f < x2 ∧ x1 < o.2.1 f)) o k to y.2.2) ∧ i4 y.2.2) fm (by omega) ⟨rfl, ⟨0, rfl, FP.start⟩, hI⟩ ?_) ?_
  · intro k y hk hs
    obtain ⟨a1, ⟨to, a2, a3⟩, a4⟩ := hs
    have hto := a3.1
    unfold m_X9_unfix_5
    refine wp_gd (by omega) (wp_gd (by omega) (wp_if (fun c1 => ?_) (fun c1 => ?_)))
    · refine wp_end (by decide) ⟨to, a2, ?_, a4⟩
      rw [show fm = k by omega]
      exact a3
    · have ek : y.2.1.toNat = k := by omega
      obtain ⟨q1, q2, _⟩ := a3.2.1 k (Nat.le_refl k)
      rw [ek]
      have hkeep : (fun f => ¬ (o.1 f < x2 ∧ x1 < o.2.1 f)) k → wp (m_X9_unfix_39 x1 x2 y.1 y.2.1 mm y.2.2.1 y.2.2.2.1 y.2.2.2.2.1 y.2.2.2.2.2) (fun u : Nat × Int × Int × r4 => (u.1 = 0 → k < fm ∧ u.2.2.1 = ((k + 1 : Nat) : Int) ∧ (∃ to : Nat, u.2.1 = to ∧ FP (fun f => ¬ (o.1 f < x2 ∧ x1 < o.2.1 f)) o (k + 1) to u.2.2.2) ∧ i4 u.2.2.2) ∧ (u.1 ≠ 0 → ∃ to : Nat, u.2.1 = to ∧ FP (fun f => ¬ (o.1 f < x2 ∧ x1 < o.2.1 f)) o fm to u.2.2.2 ∧ i4 u.2.2.2)) := by
        intro hkp
        unfold m_X9_unfix_39
        refine wp_eq (q_keepFixed a1 a2 (by omega) (by omega) y.2.2) (wp_vl (wp_vl (wp_go ⟨by omega, by show y.2.1 + 1 = _; omega, ⟨to + 1, by show y.1 + 1 = _; omega, a3.keep hkp⟩, r4_inI a4⟩)))
      refine wp_gd (by omega) (wp_gd (a4 k).1 (wp_gd h2 (wp_if (fun c2 => ?_) (fun c2 => ?_))))
      · exact hkeep (fun z => by have := z.1; omega)
      · refine wp_gd (by omega) (wp_gd (a4 k).2.1 (wp_gd h1 (wp_if (fun c3 => ?_) (fun c3 => ?_))))
        · exact hkeep (fun z => by have := z.2; omega)
        · exact wp_vl (wp_go ⟨by omega, by show y.2.1 + 1 = _; omega, ⟨to, a2, a3.skip (fun z => z ⟨by omega, by omega⟩)⟩, a4⟩)
  · rintro ⟨t5, y3, y4, r1, r2, r3, r4'⟩ hu
    exact wp_some hu
