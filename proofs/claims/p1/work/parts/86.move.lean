/-! the fixed parts of both sides, when a break is moved -/
theorem FP.comp {A Bk B0 : Nat → Prop} {o r r2 : r4} {fm t1 t2 : Nat} (h1 : FP A o fm t1 r) (h2 : FP Bk r t1 t2 r2) (hb : ∀ f g, r4eq r o f g → (Bk f ↔ B0 g)) : ∃ ix : Nat → Nat, t2 ≤ fm ∧ (∀ f, f < t2 → ix f < fm ∧ (A (ix f) ∧ B0 (ix f)) ∧ r4eq r2 o f (ix f)) ∧ (∀ f, f < fm → A f ∧ B0 f → ∃ f', f' < t2 ∧ ix f' = f) ∧ ∀ f g, f < g → g < t2 → ix f < ix g := by
  obtain ⟨a1, a2, ix, a3, a4, a5⟩ := h1
  obtain ⟨b1, b2, jx, b3, b4, b5⟩ := h2
  refine ⟨fun f => ix (jx f), by omega, fun f hf => ?_, fun f hf hk => ?_, fun f g hfg hg => ?_⟩
  · obtain ⟨c1, c2, c3⟩ := b3 f hf
    obtain ⟨d1, d2, d3⟩ := a3 (jx f) c1
    refine ⟨d1, ⟨d2, (hb _ _ d3).mp c2⟩, c3.1.trans d3.1, c3.2.1.trans d3.2.1, c3.2.2.1.trans d3.2.2.1, c3.2.2.2.trans d3.2.2.2⟩
  · obtain ⟨f1, c1, c2⟩ := a4 f hf hk.1
    have d3 := (a3 f1 c1).2.2
    rw [c2] at d3
    obtain ⟨f2, e1, e2⟩ := b4 f1 c1 ((hb _ _ d3).mpr hk.2)
    exact ⟨f2, e1, by show ix (jx f2) = f; rw [e2]; exact c2⟩
  · exact a5 _ _ (b5 f g hfg hg) (b3 g hg).1
set_option maxHeartbeats 1000000 in
/-- those that are kept stand, if nothing of them has changed -/
theorem FX_filter {B B' : Nat → Nat → Int} (hs : same19 B B') {n fm t2 : Nat} {o r2 : r4} {Kp : Nat → Prop} (hF : FX B n fm o.1 o.2.1 o.2.2.1 o.2.2.2) (hix : ∃ ix : Nat → Nat, t2 ≤ fm ∧ (∀ f, f < t2 → ix f < fm ∧ Kp (ix f) ∧ r4eq r2 o f (ix f)) ∧ (∀ f, f < fm → Kp f → ∃ f', f' < t2 ∧ ix f' = f) ∧ ∀ f g, f < g → g < t2 → ix f < ix g)
    (h19 : ∀ f, f < fm → Kp f → B' 19 (o.1 f).toNat = B 19 (o.1 f).toNat) (h17a : ∀ f, f < fm → Kp f → o.1 f = 0 ∨ B' 17 (o.1 f).toNat = 1) (h17b : ∀ f, f < fm → Kp f → o.2.1 f = n ∨ B' 17 (o.2.1 f).toNat = 1) (h17c : ∀ f, f < fm → Kp f → ∀ p : Nat, o.1 f < p → p < o.2.1 f → B' 17 p = 2) (hback2 : ∀ i, i < 36 → B' 19 i ≠ 0 → B 19 i ≠ 0 ∧ ∀ f, f < fm → o.1 f = i → Kp f) : FX B' n t2 r2.1 r2.2.1 r2.2.2.1 r2.2.2.2 := by
  obtain ⟨hfm, hf, hback, hinj⟩ := hF
  obtain ⟨ix, i0, i1, i2, i3⟩ := hix
  refine ⟨by omega, fun f hf' => ?_, fun i hi hz => ?_, fun f g hf' hg' he => ?_⟩
  · obtain ⟨g1, g2, g3⟩ := i1 f hf'
    obtain ⟨p1, q1, q2, q3, _⟩ := hf (ix f) g1
    rw [g3.1, g3.2.1, g3.2.2.1, g3.2.2.2]
    exact ⟨p1, q1, (EV_same hs _).mpr q2, by rw [h19 _ g1 g2]; exact q3, h17a _ g1 g2, h17b _ g1 g2, h17c _ g1 g2⟩
  · obtain ⟨z1, z2⟩ := hback2 i hi hz
    obtain ⟨f, f1, f2⟩ := hback i hi z1
    obtain ⟨f', e1, e2⟩ := i2 f f1 (z2 f f1 f2)
    have := (i1 f' e1).2.2.1
    exact ⟨f', e1, by rw [this, e2]; exact f2⟩
  · obtain ⟨f1, _, f3⟩ := i1 f hf'
    obtain ⟨g1, _, g3⟩ := i1 g hg'
    have h1 : ix f = ix g := hinj _ _ f1 g1 (by rw [← f3.1, ← g3.1]; exact he)
    rcases Nat.lt_trichotomy f g with h | h | h
    · have := i3 f g h hg'
      omega
    · exact h
    · have := i3 g f h hf'
      omega
/-- what the class lets go when a break is moved -/
def mvP (fx : Nat → Int) (p : Nat) (how : Int) (i : Nat) : Prop := ((i < p ∧ (p : Int) < fx i / 1024) ∧ how ≠ 2) ∨ ((i = p ∨ fx i / 1024 = p) ∧ how ≠ 1)
set_option maxHeartbeats 1000000 in
theorem q_moveBreak {fx br : Nat → Int} (hfx : ∀ i, inI (fx i)) {p : Nat} (hp : p < 36) {x1 how : Int} (e1 : x1 = p) (hh : 0 ≤ how ∧ how ≤ 2) : wp (m_X4_moveBreak x1 how br fx) (fun u => u.1 = uz br p how ∧ ∀ i, (i ≤ p ∧ mvP fx p how i → u.2 i = 0) ∧ (¬ (i ≤ p ∧ mvP fx p how i) → u.2 i = fx i)) := by
  unfold m_X4_moveBreak
  rw [show x1.toNat = p by omega]
  refine wp_gd (by omega) (wp_vl (wp_bind (P := fun u : Nat × Int × (Nat → Int) => ∀ i, (i < p + 1 ∧ mvP fx p how i → u.2.2 i = 0) ∧ (¬ (i < p + 1 ∧ mvP fx p how i) → u.2.2 i = fx i)) (wp_loop (fun k y => y.1 = (k : Int) ∧ ∀ i, (i < k ∧ mvP fx p how i → y.2 i = 0) ∧ (¬ (i < k ∧ mvP fx p how i) → y.2 i = fx i)) (p + 1) (by omega) ⟨rfl, fun i => ⟨fun h => absurd h.1 (by omega), fun _ => rfl⟩⟩ ?_) ?_))
  · intro k y hk hs
    obtain ⟨a1, a2⟩ := hs
    have hyk : y.2 k = fx k := (a2 k).2 (fun h => absurd h.1 (by omega))
    have hI := hfx k
    have ek : y.1.toNat = k := by omega
    have hskip : ¬ mvP fx p how k → ∀ i, (i < k + 1 ∧ mvP fx p how i → y.2 i = 0) ∧ (¬ (i < k + 1 ∧ mvP fx p how i) → y.2 i = fx i) := by
      intro hno i
      by_cases hik : i = k
      · subst hik
        exact ⟨fun h => absurd h.2 hno, fun _ => hyk⟩
      · exact ⟨fun h => (a2 i).1 ⟨by omega, h.2⟩, fun h => (a2 i).2 (fun z => h ⟨by omega, z.2⟩)⟩
    have hput : mvP fx p how k → ∀ i, (i < k + 1 ∧ mvP fx p how i → uz y.2 k 0 i = 0) ∧ (¬ (i < k + 1 ∧ mvP fx p how i) → uz y.2 k 0 i = fx i) := by
      intro hyes i
      by_cases hik : i = k
      · subst hik
        rw [uz_at]
        exact ⟨fun _ => rfl, fun h => absurd ⟨by omega, hyes⟩ h⟩
      · rw [uz_ne _ _ hik]
        exact ⟨fun h => (a2 i).1 ⟨by omega, h.2⟩, fun h => (a2 i).2 (fun z => h ⟨by omega, z.2⟩)⟩
    unfold m_X4_moveBreak_9
    refine wp_gd (by omega) (wp_gd (by omega) (wp_if (fun c1 => ?_) (fun c1 => ?_)))
    · refine wp_end (by decide) ?_
      rw [show p + 1 = k by omega]
      exact a2
    · rw [ek, hyk]
      have h81 : mvP fx p how k → k < p + 1 → wp (m_X4_moveBreak_81 x1 how y.1 (uz br p how) y.2) (fun u : Nat × Int × (Nat → Int) => (u.1 = 0 → k < p + 1 ∧ u.2.1 = ((k + 1 : Nat) : Int) ∧ ∀ i, (i < k + 1 ∧ mvP fx p how i → u.2.2 i = 0) ∧ (¬ (i < k + 1 ∧ mvP fx p how i) → u.2.2 i = fx i)) ∧ (u.1 ≠ 0 → ∀ i, (i < p + 1 ∧ mvP fx p how i → u.2.2 i = 0) ∧ (¬ (i < p + 1 ∧ mvP fx p how i) → u.2.2 i = fx i))) := by
        intro hyes hkp
        unfold m_X4_moveBreak_81
        rw [ek]
        exact wp_gd (by omega) (wp_vl (wp_vl (wp_go ⟨by omega, by show y.1 + 1 = _; omega, hput hyes⟩)))
      have h71 : ∀ x6 : Int, ((x6 = 1 ∧ (k = p ∨ fx k / 1024 = p)) ∨ (x6 = 0 ∧ ¬ (k = p ∨ fx k / 1024 = p))) → ¬ ((k < p ∧ (p : Int) < fx k / 1024) ∧ how ≠ 2) → k < p + 1 → wp (m_X4_moveBreak_71 x1 how y.1 x6 (uz br p how) y.2) (fun u : Nat × Int × (Nat → Int) => (u.1 = 0 → k < p + 1 ∧ u.2.1 = ((k + 1 : Nat) : Int) ∧ ∀ i, (i < k + 1 ∧ mvP fx p how i → u.2.2 i = 0) ∧ (¬ (i < k + 1 ∧ mvP fx p how i) → u.2.2 i = fx i)) ∧ (u.1 ≠ 0 → ∀ i, (i < p + 1 ∧ mvP fx p how i → u.2.2 i = 0) ∧ (¬ (i < p + 1 ∧ mvP fx p how i) → u.2.2 i = fx i))) := by
        intro x6 h6 hov hkp
        unfold m_X4_moveBreak_71
        refine wp_gd (by omega) (wp_if (fun c => ?_) (fun c => ?_))
        · refine wp_vl (wp_go ⟨by omega, by show y.1 + 1 = _; omega, hskip ?_⟩)
          rintro (z | z)
          · exact hov z
          · rcases h6 with ⟨z1, _⟩ | ⟨_, z2⟩
            · omega
            · exact z2 z.1
        · refine wp_gd (by omega) (wp_if (fun c2 => ?_) (fun c2 => ?_))
          · refine wp_vl (wp_go ⟨by omega, by show y.1 + 1 = _; omega, hskip ?_⟩)
            rintro (z | z)
            · exact hov z
            · exact z.2 c2
          · refine h81 (Or.inr ⟨?_, c2⟩) hkp
            rcases h6 with ⟨_, z2⟩ | ⟨z1, _⟩
            · exact z2
            · omega
      have h59 : ∀ x5 x6 : Int, ((x5 = 1 ∧ (k < p ∧ (p : Int) < fx k / 1024)) ∨ (x5 = 0 ∧ ¬ (k < p ∧ (p : Int) < fx k / 1024))) → ((x6 = 1 ∧ (k = p ∨ fx k / 1024 = p)) ∨ (x6 = 0 ∧ ¬ (k = p ∨ fx k / 1024 = p))) → k < p + 1 → wp (m_X4_moveBreak_59 x1 how y.1 x5 x6 (uz br p how) y.2) (fun u : Nat × Int × (Nat → Int) => (u.1 = 0 → k < p + 1 ∧ u.2.1 = ((k + 1 : Nat) : Int) ∧ ∀ i, (i < k + 1 ∧ mvP fx p how i → u.2.2 i = 0) ∧ (¬ (i < k + 1 ∧ mvP fx p how i) → u.2.2 i = fx i)) ∧ (u.1 ≠ 0 → ∀ i, (i < p + 1 ∧ mvP fx p how i → u.2.2 i = 0) ∧ (¬ (i < p + 1 ∧ mvP fx p how i) → u.2.2 i = fx i))) := by
        intro x5 x6 h5 h6 hkp
        unfold m_X4_moveBreak_59
        refine wp_gd (by omega) (wp_if (fun c => ?_) (fun c => ?_))
        · refine h71 x6 h6 (fun z => ?_) hkp
          rcases h5 with ⟨z1, _⟩ | ⟨_, z2⟩
          · omega
          · exact z2 z.1
        · refine wp_gd (by omega) (wp_if (fun c2 => ?_) (fun c2 => ?_))
          · exact h71 x6 h6 (fun z => z.2 c2) hkp
          · refine h81 (Or.inl ⟨?_, c2⟩) hkp
            rcases h5 with ⟨_, z2⟩ | ⟨z1, _⟩
            · exact z2
            · omega
      have h41 : ∀ x5 : Int, ((x5 = 1 ∧ (k < p ∧ (p : Int) < fx k / 1024)) ∨ (x5 = 0 ∧ ¬ (k < p ∧ (p : Int) < fx k / 1024))) → wp (m_X4_moveBreak_41 x1 how y.1 (fx k / 1024) x5 (uz br p how) y.2) (fun u : Nat × Int × (Nat → Int) => (u.1 = 0 → k < p + 1 ∧ u.2.1 = ((k + 1 : Nat) : Int) ∧ ∀ i, (i < k + 1 ∧ mvP fx p how i → u.2.2 i = 0) ∧ (¬ (i < k + 1 ∧ mvP fx p how i) → u.2.2 i = fx i)) ∧ (u.1 ≠ 0 → ∀ i, (i < p + 1 ∧ mvP fx p how i → u.2.2 i = 0) ∧ (¬ (i < p + 1 ∧ mvP fx p how i) → u.2.2 i = fx i))) := by
        intro x5 h5
        unfold m_X4_moveBreak_41 m_X4_moveBreak_54
        refine wp_gd (by omega) (wp_gd (by omega) (wp_if (fun c => ?_) (fun c => ?_)))
        · exact h59 x5 1 h5 (Or.inl ⟨rfl, Or.inl (by omega)⟩) (by omega)
        · refine wp_gd (by omega) (wp_if (fun c2 => ?_) (fun c2 => ?_))
          · exact h59 x5 1 h5 (Or.inl ⟨rfl, Or.inr (by omega)⟩) (by omega)
          · exact h59 x5 0 h5 (Or.inr ⟨rfl, by omega⟩) (by omega)
      refine wp_gd (by omega) (wp_gd hI (wp_vl (wp_if (fun c2 => ?_) (fun c2 => ?_))))
      · unfold m_X4_moveBreak_40
        exact h41 0 (Or.inr ⟨rfl, by omega⟩)
      · refine wp_gd (by omega) (wp_if (fun c3 => ?_) (fun c3 => ?_))
        · unfold m_X4_moveBreak_40
          exact h41 0 (Or.inr ⟨rfl, by omega⟩)
        · exact h41 1 (Or.inl ⟨rfl, by omega⟩)
  · rintro ⟨t9, y3, f2⟩ hu
    have hu : ∀ i, (i < p + 1 ∧ mvP fx p how i → f2 i = 0) ∧ (¬ (i < p + 1 ∧ mvP fx p how i) → f2 i = fx i) := hu
    exact wp_some ⟨rfl, fun i => ⟨fun h => (hu i).1 ⟨by omega, h.2⟩, fun h => (hu i).2 (fun z => h ⟨by omega, z.2⟩)⟩⟩
