/-! each part from a place, in the document's order -/
abbrev st6 : Type := (Nat → Int) × (Nat → Int) × (Nat → Int) × (Nat → Int) × (Nat → Int) × Int
set_option maxHeartbeats 2000000 in
theorem q_eachFrom {B : Nat → Nat → Int} (hW : GW B) {n a : Nat} (hn : n ≤ 36) (ha : a < n) (J : Nat → Nat → st6 → Prop) {x1 fi gu ba nn mm pa f0 k0 : Int} {fF fT fW fE tb : Nat → Int} (e1 : x1 = a) (en : nn = n)
    (hstep : ∀ (w e : Int) (b : Nat) (x5 : Int) (st : st6), ((0 ≤ w ∧ w < B 18 0) ∨ w = 60) → (-1 ≤ e ∧ e < 8) → (w ≠ 60 → e < B 18 1) → (w = 60 → e = -1) → a < b → b ≤ n → x5 = b → J (9 * w + e + 1).toNat b st → wp (m_X9_onePart x1 x5 w e fi (B 6) (B 7) (B 8) (B 11) (B 12) gu ba (B 14) (B 15) nn mm (B 17) fF fT fW fE tb st.1 pa st.2.1 st.2.2.1 st.2.2.2.1 st.2.2.2.2.1 st.2.2.2.2.2 f0 k0) (fun u => J (9 * w + e + 1).toNat (b + 1) u))
    (hnext : ∀ (ent : Nat) (st : st6), J ent (n + 1) st → J (ent + 1) (a + 1) st)
    (hskip : ∀ (ent ent' : Nat) (st : st6), ent ≤ ent' → (∀ z : Nat, ent ≤ z → z < ent' → ¬ EV B z) → J ent (a + 1) st → J ent' (a + 1) st) (st : st6) (h0 : J 0 (a + 1) st) :
    wp (m_X9_eachFrom x1 fi (B 6) (B 7) (B 8) (B 11) (B 12) (B 18 0) (B 18 1) gu ba (B 14) (B 15) nn mm (B 17) fF fT fW fE tb st.1 pa st.2.1 st.2.2.1 st.2.2.2.1 st.2.2.2.2.1 st.2.2.2.2.2 f0 k0) (fun u => J 541 (a + 1) u) := by
  have hW0 := hW.1
  have hE0 := hW.2.1
  have h25 : ∀ (w : Nat) (x3 : Int) (s : st6), (((w : Int) < B 18 0) ∨ w = 60) → x3 = w → J (9 * w) (a + 1) s → wp (m_X9_eachFrom_25 x1 fi x3 (B 6) (B 7) (B 8) (B 11) (B 12) (B 18 0) (B 18 1) gu ba (B 14) (B 15) nn mm (B 17) fF fT fW fE tb s.1 pa s.2.1 s.2.2.1 s.2.2.2.1 s.2.2.2.2.1 s.2.2.2.2.2 f0 k0) (fun u => u.1 = 0 ∧ u.2.1 = ((w + 1 : Nat) : Int) ∧ J (if w + 1 = 61 then 541 else 9 * (w + 1)) (a + 1) u.2.2) := by
    intro w x3 s hw e3 hs
    obtain ⟨Ne, eNe⟩ : ∃ Ne : Nat, (w = 60 ∧ Ne = 1) ∨ (w ≠ 60 ∧ (Ne : Int) = B 18 1 + 1) := by
      by_cases h : w = 60
      · exact ⟨1, Or.inl ⟨h, rfl⟩⟩
      · exact ⟨(B 18 1 + 1).toNat, Or.inr ⟨h, by omega⟩⟩
    unfold m_X9_eachFrom_25
    refine wp_bind (P := fun u : Nat × Int × st6 => J (if w + 1 = 61 then 541 else 9 * (w + 1)) (a + 1) u.2.2) (wp_loop (fun j y => y.1 = -1 + (j : Int) ∧ J (9 * w + j) (a + 1) y.2) Ne (by omega) ⟨rfl, hs⟩ ?_) ?_
    · intro j y hj hst
      obtain ⟨a1, a2⟩ := hst
      have h44 : ∀ t1 : Int, ((w = 60 ∧ t1 = 0) ∨ (w ≠ 60 ∧ t1 = B 18 1)) → wp (m_X9_eachFrom_44 x1 fi x3 y.1 y.1 t1 (B 6) (B 7) (B 8) (B 11) (B 12) (B 18 0) (B 18 1) gu ba (B 14) (B 15) nn mm (B 17) fF fT fW fE tb y.2.1 pa y.2.2.1 y.2.2.2.1 y.2.2.2.2.1 y.2.2.2.2.2.1 y.2.2.2.2.2.2 f0 k0) (fun u : Nat × Int × st6 => (u.1 = 0 → j < Ne ∧ u.2.1 = -1 + ((j + 1 : Nat) : Int) ∧ J (9 * w + (j + 1)) (a + 1) u.2.2) ∧ (u.1 ≠ 0 → J (if w + 1 = 61 then 541 else 9 * (w + 1)) (a + 1) u.2.2)) := by
        intro t1 ht1
        unfold m_X9_eachFrom_44
        refine wp_gd (by omega) (wp_gd (by omega) (wp_if (fun c1 => ?_) (fun c1 => ?_)))
        · refine wp_some ⟨fun z => absurd z Nat.one_ne_zero, fun _ => ?_⟩
          show J _ (a + 1) y.2
          by_cases h60 : w = 60
          · rw [if_pos (by omega)]
            have : 9 * w + j = 541 := by omega
            rw [this] at a2
            exact a2
          · rw [if_neg (by omega)]
            refine hskip _ _ _ (by omega) (fun z z1 z2 hz => ?_) a2
            rcases hz with hz | ⟨_, _, _, hz⟩
            · omega
            · omega
        · refine wp_vl (wp_bind (P := fun u : Nat × Int × st6 => J (9 * w + j) (n + 1) u.2.2) (wp_loop (fun i d => d.1 = ((a + 1 + i : Nat) : Int) ∧ J (9 * w + j) (a + 1 + i) d.2) (n - a) (by omega) ⟨by show x1 + 1 = _; omega, a2⟩ ?_) ?_)
          · intro i d hi hsd
            obtain ⟨d1, d2⟩ := hsd
            unfold m_X9_eachFrom_52
            refine wp_gd (by omega) (wp_gd (by omega) (wp_if (fun c2 => ?_) (fun c2 => ?_)))
            · refine wp_end (by decide) ?_
              show J (9 * w + j) (n + 1) d.2
              rw [show n + 1 = a + 1 + i by omega]
              exact d2
            · have ej : (9 * x3 + y.1 + 1).toNat = 9 * w + j := by omega
              have h9 := hstep x3 y.1 (a + 1 + i) d.1 d.2 (by omega) (by omega) (by omega) (by omega) (by omega) (by omega) d1 (by rw [ej]; exact d2)
              rw [ej] at h9
              refine wp_bind h9 ?_
              rintro ⟨r1, r2, r3, r4, r5, r6⟩ hu
              exact wp_vl (wp_go ⟨by omega, by show d.1 + 1 = _; omega, hu⟩)
          · rintro ⟨t52, y5, r1, r2, r3, r4, r5, r6⟩ hu
            have hu := hnext _ _ hu
            exact wp_vl (wp_some ⟨fun _ => ⟨by omega, by show y.1 + 1 = _; omega, hu⟩, fun z => absurd rfl z⟩)
      unfold m_X9_eachFrom_28
      refine wp_gd (by omega) (wp_if (fun c1 => ?_) (fun c1 => ?_))
      · exact h44 0 (Or.inl ⟨by omega, rfl⟩)
      · exact h44 (B 18 1) (Or.inr ⟨by omega, rfl⟩)
    · rintro ⟨t28, y4, r1, r2, r3, r4, r5, r6⟩ hu
      exact wp_vl (wp_some ⟨rfl, by show x3 + 1 = _; omega, hu⟩)
  unfold m_X9_eachFrom
  refine wp_bind (P := fun u : Nat × Int × st6 => J 541 (a + 1) u.2.2) (wp_loop (fun k y => y.1 = (k : Int) ∧ J (if k = 61 then 541 else 9 * k) (a + 1) y.2) 61 (by omega) ⟨rfl, h0⟩ ?_) ?_
  · intro k y hk hs
    obtain ⟨a1, a2⟩ := hs
    unfold m_X9_eachFrom_2
    refine wp_gd (by omega) (wp_if (fun c1 => ?_) (fun c1 => ?_))
    · refine wp_end (by decide) ?_
      rw [if_pos (by omega)] at a2
      exact a2
    · rw [if_neg (by omega)] at a2
      refine wp_gd (by omega) (wp_if (fun c2 => ?_) (fun c2 => ?_))
      · refine wp_mono (h25 k y.1 y.2 (Or.inl (by omega)) a1 a2) ?_
        rintro u ⟨u1, u2, u3⟩
        exact ⟨fun _ => ⟨by omega, u2, u3⟩, fun z => absurd u1 z⟩
      · refine wp_if (fun c3 => ?_) (fun c3 => ?_)
        · refine wp_mono (h25 k y.1 y.2 (Or.inr (by omega)) a1 a2) ?_
          rintro u ⟨u1, u2, u3⟩
          exact ⟨fun _ => ⟨by omega, u2, u3⟩, fun z => absurd u1 z⟩
        · refine wp_vl (wp_go ⟨by omega, by show y.1 + 1 = _; omega, ?_⟩)
          rw [if_neg (by omega)]
          refine hskip _ _ _ (by omega) (fun z z1 z2 hz => ?_) a2
          rcases hz with hz | ⟨_, _, hz, _⟩
          · omega
          · omega
  · rintro ⟨t2, y3, r1, r2, r3, r4, r5, r6⟩ hu
    exact wp_some hu
