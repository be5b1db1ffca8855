/-! fixed parts let go at a break; the class's fix and moveBreak -/
set_option maxHeartbeats 1000000 in
theorem q_unfixEnds {fm : Nat} (hfm : fm ≤ 36) {o : r4} (hI : i4 o) {x1 mm : Int} (h1 : inI x1) (em : mm = fm) : wp (m_X9_unfixEnds x1 mm o.1 o.2.1 o.2.2.1 o.2.2.2) (fun u => ∃ to : Nat, u.1 = to ∧ FP (fun f => ¬ (o.1 f = x1 ∨ o.2.1 f = x1)) o fm to u.2 ∧ i4 u.2) := by
  unfold m_X9_unfixEnds
  refine wp_bind (P := fun u : Nat × Int × Int × r4 => ∃ to : Nat, u.2.1 = to ∧ FP (fun f => ¬ (o.1 f = x1 ∨ o.2.1 f = x1)) o fm to u.2.2.2 ∧ i4 u.2.2.2) (wp_loop (fun k y => y.2.1 = (k : Int) ∧ (∃ to : Nat, y.1 = to ∧ FP (fun f => ¬ (o.1 f = x1 ∨ o.2.1 f = x1)) o k to y.2.2) ∧ i4 y.2.2) fm (by omega) ⟨rfl, ⟨0, rfl, FP.start⟩, hI⟩ ?_) ?_
  · intro k y hk hs
    obtain ⟨a1, ⟨to, a2, a3⟩, a4⟩ := hs
    have hto := a3.1
    unfold m_X9_unfixEnds_4
    refine wp_gd (by omega) (wp_gd (by omega) (wp_if (fun c1 => ?_) (fun c1 => ?_)))
    · refine wp_end (by decide) ⟨to, a2, ?_, a4⟩
      rw [show fm = k by omega]
      exact a3
    · have ek : y.2.1.toNat = k := by omega
      obtain ⟨q1, q2, _⟩ := a3.2.1 k (Nat.le_refl k)
      rw [ek]
      refine wp_gd (by omega) (wp_gd (a4 k).1 (wp_gd h1 (wp_if (fun c2 => ?_) (fun c2 => ?_))))
      · exact wp_vl (wp_go ⟨by omega, by show y.2.1 + 1 = _; omega, ⟨to, a2, a3.skip (fun z => z (Or.inl (by omega)))⟩, a4⟩)
      · refine wp_gd (by omega) (wp_gd (a4 k).2.1 (wp_if (fun c3 => ?_) (fun c3 => ?_)))
        · exact wp_vl (wp_go ⟨by omega, by show y.2.1 + 1 = _; omega, ⟨to, a2, a3.skip (fun z => z (Or.inr (by omega)))⟩, a4⟩)
        · exact wp_eq (q_keepFixed a1 a2 (by omega) (by omega) y.2.2) (wp_vl (wp_vl (wp_go ⟨by omega, by show y.2.1 + 1 = _; omega, ⟨to + 1, by show y.1 + 1 = _; omega, a3.keep (fun z => by rcases z with z | z <;> omega)⟩, r4_inI a4⟩)))
  · rintro ⟨t5, y3, y4, r1, r2, r3, r4'⟩ hu
    exact wp_some hu
set_option maxHeartbeats 1000000 in
theorem q_unfixOver {fm : Nat} (hfm : fm ≤ 36) {o : r4} (hI : i4 o) {x1 mm : Int} (h1 : inI x1) (em : mm = fm) : wp (m_X9_unfixOver x1 mm o.1 o.2.1 o.2.2.1 o.2.2.2) (fun u => ∃ to : Nat, u.1 = to ∧ FP (fun f => ¬ (o.1 f < x1 ∧ x1 < o.2.1 f)) o fm to u.2 ∧ i4 u.2) := by
  unfold m_X9_unfixOver
  refine wp_bind (P := fun u : Nat × Int × Int × r4 => ∃ to : Nat, u.2.1 = to ∧ FP (fun f => ¬ (o.1 f < x1 ∧ x1 < o.2.1 f)) o fm to u.2.2.2 ∧ i4 u.2.2.2) (wp_loop (fun k y => y.2.1 = (k : Int) ∧ (∃ to : Nat, y.1 = to ∧ FP (fun f => ¬ (o.1 f < x1 ∧ x1 < o.2.1 f)) o k to y.2.2) ∧ i4 y.2.2) fm (by omega) ⟨rfl, ⟨0, rfl, FP.start⟩, hI⟩ ?_) ?_
  · intro k y hk hs
    obtain ⟨a1, ⟨to, a2, a3⟩, a4⟩ := hs
    have hto := a3.1
    unfold m_X9_unfixOver_4
    refine wp_gd (by omega) (wp_gd (by omega) (wp_if (fun c1 => ?_) (fun c1 => ?_)))
    · refine wp_end (by decide) ⟨to, a2, ?_, a4⟩
      rw [show fm = k by omega]
      exact a3
    · have ek : y.2.1.toNat = k := by omega
      obtain ⟨q1, q2, _⟩ := a3.2.1 k (Nat.le_refl k)
      rw [ek]
      have hkeep : (fun f => ¬ (o.1 f < x1 ∧ x1 < o.2.1 f)) k → wp (m_X9_unfixOver_35 x1 y.1 y.2.1 mm y.2.2.1 y.2.2.2.1 y.2.2.2.2.1 y.2.2.2.2.2) (fun u : Nat × Int × Int × r4 => (u.1 = 0 → k < fm ∧ u.2.2.1 = ((k + 1 : Nat) : Int) ∧ (∃ to : Nat, u.2.1 = to ∧ FP (fun f => ¬ (o.1 f < x1 ∧ x1 < o.2.1 f)) o (k + 1) to u.2.2.2) ∧ i4 u.2.2.2) ∧ (u.1 ≠ 0 → ∃ to : Nat, u.2.1 = to ∧ FP (fun f => ¬ (o.1 f < x1 ∧ x1 < o.2.1 f)) o fm to u.2.2.2 ∧ i4 u.2.2.2)) := by
        intro hkp
        unfold m_X9_unfixOver_35
        exact wp_eq (q_keepFixed a1 a2 (by omega) (by omega) y.2.2) (wp_vl (wp_vl (wp_go ⟨by omega, by show y.2.1 + 1 = _; omega, ⟨to + 1, by show y.1 + 1 = _; omega, a3.keep hkp⟩, r4_inI a4⟩)))
      refine wp_gd (by omega) (wp_gd (a4 k).1 (wp_gd h1 (wp_if (fun c2 => ?_) (fun c2 => ?_))))
      · exact hkeep (fun z => by have := z.1; omega)
      · refine wp_gd (by omega) (wp_gd (a4 k).2.1 (wp_if (fun c3 => ?_) (fun c3 => ?_)))
        · exact hkeep (fun z => by have := z.2; omega)
        · exact wp_vl (wp_go ⟨by omega, by show y.2.1 + 1 = _; omega, ⟨to, a2, a3.skip (fun z => z ⟨by omega, by omega⟩)⟩, a4⟩)
  · rintro ⟨t5, y3, y4, r1, r2, r3, r4'⟩ hu
    exact wp_some hu
/-- a row with some of its first places emptied -/
def zap (P : Nat → Prop) [DecidablePred P] (f : Nat → Int) (k : Nat) : Nat → Int := fun i => if i < k ∧ P i then 0 else f i
theorem zap_0 (P : Nat → Prop) [DecidablePred P] (f : Nat → Int) : zap P f 0 = f := by
  funext i
  unfold zap
  rw [if_neg (fun h => absurd h.1 (by omega))]
theorem zap_skip (P : Nat → Prop) [DecidablePred P] (f : Nat → Int) {k : Nat} (h : ¬ P k) : zap P f (k + 1) = zap P f k := by
  funext i
  unfold zap
  by_cases hi : i < k ∧ P i
  · rw [if_pos hi, if_pos ⟨by omega, hi.2⟩]
  · rw [if_neg hi, if_neg (fun z => hi ⟨by
      by_cases hik : i = k
      · subst hik
        exact absurd z.2 h
      · omega, z.2⟩)]
theorem zap_put (P : Nat → Prop) [DecidablePred P] (f : Nat → Int) {k : Nat} (h : P k) : uz (zap P f k) k 0 = zap P f (k + 1) := by
  funext i
  unfold uz zap
  by_cases hik : i = k
  · subst hik
    rw [if_pos rfl, if_pos ⟨by omega, h⟩]
  · rw [if_neg hik]
    by_cases hi : i < k ∧ P i
    · rw [if_pos hi, if_pos ⟨by omega, hi.2⟩]
    · rw [if_neg hi, if_neg (fun z => hi ⟨by omega, z.2⟩)]
theorem zap_at (P : Nat → Prop) [DecidablePred P] (f : Nat → Int) {k i : Nat} (h : k ≤ i) : zap P f k i = f i := by
  unfold zap
  rw [if_neg (fun z => absurd z.1 (by omega))]
theorem zap_inI {P : Nat → Prop} [DecidablePred P] {f : Nat → Int} (hf : ∀ i, inI (f i)) (k : Nat) : ∀ i, inI (zap P f k i) := by
  intro i
  unfold zap
  by_cases h : i < k ∧ P i
  · rw [if_pos h]
    decide
  · rw [if_neg h]
    exact hf i
theorem q_wantBreak {br : Nat → Int} {n p : Nat} (hn : n ≤ 36) (hp : p ≤ 36) {x sl : Int} (e : x = p) (es : sl = n) : m_X4_wantBreak x sl br = some (if 0 < p ∧ p < n then uz br p 1 else br) := by
  refine wp_out ?_
  unfold m_X4_wantBreak
  refine wp_gd (by omega) (wp_if (fun c1 => ?_) (fun c1 => ?_))
  · refine wp_some ?_
    rw [if_neg (by omega)]
  · refine wp_gd (by omega) (wp_if (fun c2 => ?_) (fun c2 => ?_))
    · refine wp_some ?_
      rw [if_neg (by omega)]
    · rw [show x.toNat = p by omega]
      refine wp_gd (by omega) (wp_vl (wp_some ?_))
      rw [if_pos (by omega)]
set_option maxHeartbeats 1000000 in
theorem q_fix {fx br : Nat → Int} (hfx : ∀ i, inI (fx i)) {n a b e : Nat} (hn : n ≤ 36) (hab : a < b) (hbn : b ≤ n) {x1 x2 x3 sl : Int} (e1 : x1 = a) (e2 : x2 = b) (e3 : x3 = e) (es : sl = n) : wp (m_X4_fix x1 x2 x3 sl br fx) (fun u => u.2 = uz (zap (fun i => (a : Int) < fx i / 1024) fx b) a (b * 1024 + e) ∧ u.1 = (if 0 < b ∧ b < n then uz (if 0 < a ∧ a < n then uz (fz br (a + 1) b 2) a 1 else fz br (a + 1) b 2) b 1 else (if 0 < a ∧ a < n then uz (fz br (a + 1) b 2) a 1 else fz br (a + 1) b 2))) := by
  unfold m_X4_fix
  refine wp_bind (P := fun u : Nat × Int × (Nat → Int) => u.2.2 = zap (fun i => (a : Int) < fx i / 1024) fx b) (wp_loop (fun k y => y.1 = (k : Int) ∧ y.2 = zap (fun i => (a : Int) < fx i / 1024) fx k) b (by omega) ⟨rfl, (zap_0 _ fx).symm⟩ ?_) ?_
  · intro k y hk hs
    obtain ⟨a1, a2⟩ := hs
    unfold m_X4_fix_3
    have hfk : y.2 k = fx k := by rw [a2, zap_at _ _ (Nat.le_refl k)]
    have hI := hfx k
    refine wp_gd (by omega) (wp_gd (by omega) (wp_if (fun c1 => ?_) (fun c1 => ?_)))
    · refine wp_end (by decide) ?_
      show y.2 = _
      rw [a2, show k = b by omega]
    · rw [show y.1.toNat = k by omega, hfk]
      refine wp_gd (by omega) (wp_gd hI (wp_gd (by omega) (wp_gd (by omega) (wp_if (fun c2 => ?_) (fun c2 => ?_)))))
      · refine wp_vl (wp_go ⟨by omega, by show y.1 + 1 = _; omega, ?_⟩)
        show y.2 = _
        rw [a2, zap_skip _ fx (by omega)]
      · refine wp_gd (by omega) (wp_vl (wp_vl (wp_go ⟨by omega, by show y.1 + 1 = _; omega, ?_⟩)))
        show uz y.2 k 0 = _
        rw [a2, zap_put _ fx (by omega)]
  · rintro ⟨t3, y4, f2⟩ hu
    have hu : f2 = zap (fun i => (a : Int) < fx i / 1024) fx b := hu
    subst hu
    rw [show x1.toNat = a by omega]
    refine wp_gd (by omega) (wp_vl (wp_eq (q_fillRange (by omega) (by omega) (by omega) ⟨by decide, by omega⟩) (wp_eq (q_wantBreak hn (p := a) (by omega) e1 es) (wp_eq (q_wantBreak hn (p := b) (by omega) e2 es) (wp_some ⟨?_, ?_⟩)))))
    · show uz _ a (x2 * 1024 + x3) = _
      rw [e2, e3]
    · rw [show (x1 + 1).toNat = a + 1 by omega, show x2.toNat = b by omega]
