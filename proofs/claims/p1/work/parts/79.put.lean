/-! the reference's put; offers and choices as one list -/
set_option maxHeartbeats 2000000 in
theorem q_put {len : Nat} {cW cE cC : Nat → Int} (hlen : len ≤ 12) (hC : ∀ i, inI (cC i)) {w e v ch : Int} (hv : inI v) (el : ch = len) :
    wp (m_X9_put w e v cW cE cC ch) (fun u => ∃ len' : Nat, u.2.2.2 = len' ∧ len' ≤ 12 ∧ INS (len, pent cW cE, cC) (9 * w + e + 1) v (len', pent u.1 u.2.1, u.2.2.1) ∧ (∀ i, inI (u.2.2.1 i)) ∧ (∀ i, i < len' → ((u.1 i = w ∧ u.2.1 i = e) ∨ ∃ j, j < len ∧ u.1 i = cW j ∧ u.2.1 i = cE j))) := by
  unfold m_X9_put
  refine wp_bind (P := fun u : Nat × Int => ∃ p : Nat, u.2 = p ∧ p ≤ len ∧ (p = 0 ∨ cC (p - 1) ≤ v) ∧ ∀ i, p ≤ i → i < len → v < cC i) (wp_loop (fun k y => y = ((len - k : Nat) : Int) ∧ k ≤ len ∧ ∀ i, len - k ≤ i → i < len → v < cC i) len (by omega) ⟨by omega, by omega, fun i h1 h2 => absurd h1 (by omega)⟩ ?_) ?_
  · intro k y hk hs
    obtain ⟨a1, a2, a3⟩ := hs
    unfold m_X9_put_6
    refine wp_gd (by omega) (wp_if (fun c1 => ?_) (fun c1 => ?_))
    · exact wp_end (by decide) ⟨len - k, a1, by omega, Or.inl (by omega), a3⟩
    · rw [show (y - 1).toNat = len - k - 1 by omega]
      refine wp_gd (by omega) (wp_gd (hC _) (wp_gd hv (wp_if (fun c2 => ?_) (fun c2 => ?_))))
      · exact wp_end (by decide) ⟨len - k, a1, by omega, Or.inr c2, a3⟩
      · refine wp_vl (wp_go ⟨by omega, by show y + -1 = _; omega, by omega, fun i h1 h2 => ?_⟩)
        by_cases h : i = len - k - 1
        · rw [h]
          omega
        · exact a3 i (by omega) h2
  · rintro ⟨t6, x4⟩ ⟨p, e4, p1, p2, p3⟩
    have e4 : x4 = p := e4
    show wp (m_X9_put_30 w e v x4 cW cE cC ch) _
    unfold m_X9_put_30
    have main : ∀ (c2 : Int) (m : Nat), m = min (len + 1) 12 → c2 = m → p < 12 → wp (m_X9_put_57 w e v x4 cW cE cC c2) (fun u => ∃ len' : Nat, u.2.2.2 = len' ∧ len' ≤ 12 ∧ INS (len, pent cW cE, cC) (9 * w + e + 1) v (len', pent u.1 u.2.1, u.2.2.1) ∧ (∀ i, inI (u.2.2.1 i)) ∧ (∀ i, i < len' → ((u.1 i = w ∧ u.2.1 i = e) ∨ ∃ j, j < len ∧ u.1 i = cW j ∧ u.2.1 i = cE j))) := by
      intro c2 m em ec hp12
      unfold m_X9_put_57
      refine wp_vl (wp_bind (P := fun u : Nat × Int × (Nat → Int) × (Nat → Int) × (Nat → Int) => u.2.2.1 = shf cW p m ∧ u.2.2.2.1 = shf cE p m ∧ u.2.2.2.2 = shf cC p m) (wp_loop (fun k y => y.1 = (m : Int) - 1 - k ∧ y.2.1 = shf cW (max p (m - 1 - k)) m ∧ y.2.2.1 = shf cE (max p (m - 1 - k)) m ∧ y.2.2.2 = shf cC (max p (m - 1 - k)) m) (m - 1 - p) (by omega) ⟨by show c2 - 1 = _; omega, ?_, ?_, ?_⟩ ?_) ?_)
      · funext i
        unfold shf
        rw [if_neg (by omega)]
      · funext i
        unfold shf
        rw [if_neg (by omega)]
      · funext i
        unfold shf
        rw [if_neg (by omega)]
      · intro k y hk hs
        obtain ⟨a1, a2, a3, a4⟩ := hs
        unfold m_X9_put_65
        refine wp_gd (by omega) (wp_gd (by omega) (wp_if (fun c3 => ?_) (fun c3 => ?_)))
        · refine wp_end (by decide) ?_
          rw [show max p (m - 1 - k) = p by omega] at a2 a3 a4
          exact ⟨a2, a3, a4⟩
        · have e1 : y.1.toNat = m - 1 - k := by omega
          have e2 : (y.1 - 1).toNat = m - 1 - k - 1 := by omega
          have hsh : ∀ f : Nat → Int, uz (shf f (max p (m - 1 - k)) m) (m - 1 - k) (shf f (max p (m - 1 - k)) m (m - 1 - k - 1)) = shf f (max p (m - 1 - (k + 1))) m := by
            intro f
            funext i
            have h0 : shf f (max p (m - 1 - k)) m (m - 1 - k - 1) = f (m - 1 - k - 1) := by
              unfold shf
              rw [if_neg (by omega)]
            rw [h0]
            unfold uz shf
            by_cases hi : i = m - 1 - k
            · rw [if_pos hi, if_pos (by omega), hi]
            · rw [if_neg hi]
              by_cases h3 : max p (m - 1 - k) < i ∧ i < m
              · rw [if_pos h3, if_pos (by omega)]
              · rw [if_neg h3, if_neg (by omega)]
          rw [e1, e2, a2, a3, a4]
          exact wp_gd (by omega) (wp_gd (by omega) (wp_vl (wp_gd (by omega) (wp_gd (by omega) (wp_vl (wp_gd (by omega) (wp_gd (by omega) (wp_vl (wp_vl (wp_go ⟨by omega, by show y.1 + -1 = _; omega, hsh cW, hsh cE, hsh cC⟩))))))))))
      · rintro ⟨t65, y5, W2, E2, C2⟩ ⟨g1, g2, g3⟩
        have g1 : W2 = shf cW p m := g1
        have g2 : E2 = shf cE p m := g2
        have g3 : C2 = shf cC p m := g3
        subst g1
        subst g2
        subst g3
        rw [show x4.toNat = p by omega]
        refine wp_gd (by omega) (wp_vl (wp_gd (by omega) (wp_vl (wp_gd (by omega) (wp_vl (wp_some ⟨m, ec, by omega, ⟨p, p1, p2, p3, Or.inr ⟨hp12, em, fun i hi => ?_⟩⟩, fun i => ?_, fun i hi => ?_⟩))))))
        · have hi : i < m := hi
          refine ⟨fun h => ?_, fun h => ?_, fun h => ?_⟩
          · show 9 * uz (shf cW p m) p w i + uz (shf cE p m) p e i + 1 = 9 * cW i + cE i + 1 ∧ uz (shf cC p m) p v i = cC i
            rw [uz_ne _ _ (by omega), uz_ne _ _ (by omega), uz_ne _ _ (by omega)]
            unfold shf
            rw [if_neg (by omega), if_neg (by omega), if_neg (by omega)]
            exact ⟨rfl, rfl⟩
          · show 9 * uz (shf cW p m) p w i + uz (shf cE p m) p e i + 1 = 9 * w + e + 1 ∧ uz (shf cC p m) p v i = v
            rw [h, uz_at, uz_at, uz_at]
            exact ⟨rfl, rfl⟩
          · show 9 * uz (shf cW p m) p w i + uz (shf cE p m) p e i + 1 = 9 * cW (i - 1) + cE (i - 1) + 1 ∧ uz (shf cC p m) p v i = cC (i - 1)
            rw [uz_ne _ _ (by omega), uz_ne _ _ (by omega), uz_ne _ _ (by omega)]
            unfold shf
            rw [if_pos ⟨h, hi⟩, if_pos ⟨h, hi⟩, if_pos ⟨h, hi⟩]
            exact ⟨rfl, rfl⟩
        · show inI (uz (shf cC p m) p v i)
          refine uz_inI (fun j => ?_) hv i
          unfold shf
          by_cases h : p < j ∧ j < m
          · rw [if_pos h]
            exact hC _
          · rw [if_neg h]
            exact hC _
        · show (uz (shf cW p m) p w i = w ∧ uz (shf cE p m) p e i = e) ∨ ∃ j, j < len ∧ uz (shf cW p m) p w i = cW j ∧ uz (shf cE p m) p e i = cE j
          by_cases h : i = p
          · rw [h, uz_at, uz_at]
            exact Or.inl ⟨rfl, rfl⟩
          · rw [uz_ne _ _ h, uz_ne _ _ h]
            unfold shf
            by_cases h2 : p < i ∧ i < m
            · rw [if_pos h2, if_pos h2]
              exact Or.inr ⟨i - 1, by omega, rfl, rfl⟩
            · rw [if_neg h2, if_neg h2]
              exact Or.inr ⟨i, by omega, rfl, rfl⟩
    refine wp_gd (by omega) (wp_if (fun c1 => ?_) (fun c1 => ?_))
    · refine wp_some ⟨len, el, hlen, ⟨p, p1, p2, p3, Or.inl ⟨by omega, rfl, fun i _ => ⟨rfl, rfl⟩⟩⟩, hC, fun i hi => Or.inr ⟨i, hi, rfl, rfl⟩⟩
    · refine wp_gd (by omega) (wp_if (fun c2 => ?_) (fun c2 => ?_))
      · exact main ch 12 (by omega) (by omega) (by omega)
      · exact wp_vl (main (ch + 1) (len + 1) (by omega) (by omega) (by omega))
/-- the lists that come of going through the entries in their order; VL: an entry's whole cost -/
def OFS (VL : Nat → Int → Prop) (k : Nat) (l : oL) : Prop := ∃ sq : Nat → oL, (sq 0).1 = 0 ∧ (∀ i, i < k → (∃ v, VL i v ∧ INS (sq i) i v (sq (i + 1))) ∨ ((∀ v, ¬ VL i v) ∧ oEq (sq (i + 1)) (sq i))) ∧ oEq (sq k) l ∧ ∀ i, i ≤ k → (sq i).1 ≤ 12
theorem oEq.rfl' {l : oL} : oEq l l := ⟨rfl, fun _ _ => ⟨rfl, rfl⟩⟩
theorem oEq.symm {l m : oL} (h : oEq l m) : oEq m l := ⟨h.1.symm, fun i hi => ⟨(h.2 i (by rw [h.1]; exact hi)).1.symm, (h.2 i (by rw [h.1]; exact hi)).2.symm⟩⟩
theorem oEq.trans {l m n : oL} (h : oEq l m) (g : oEq m n) : oEq l n := ⟨h.1.trans g.1, fun i hi => ⟨(h.2 i hi).1.trans (g.2 i (by rw [← h.1]; exact hi)).1, (h.2 i hi).2.trans (g.2 i (by rw [← h.1]; exact hi)).2⟩⟩
theorem OFS_one {VL VL' : Nat → Int → Prop} (hv : ∀ i v, VL i v ↔ VL' i v) (hu : ∀ i v v', VL i v → VL i v' → v = v') {k : Nat} {l l' : oL} (h : OFS VL k l) (h' : OFS VL' k l') : oEq l l' := by
  obtain ⟨sq, a1, a2, a3, a4⟩ := h
  obtain ⟨sq', b1, b2, b3, b4⟩ := h'
  have key : ∀ i, i ≤ k → oEq (sq i) (sq' i) := by
    intro i
    induction i with
    | zero =>
      intro _
      exact ⟨by rw [a1, b1], fun i hi => by omega⟩
    | succ i ih =>
      intro hi
      have hq := ih (by omega)
      rcases a2 i (by omega) with ⟨v, c1, c2⟩ | ⟨c1, c2⟩
      · rcases b2 i (by omega) with ⟨v', d1, d2⟩ | ⟨d1, d2⟩
        · have : v = v' := hu i v v' c1 ((hv i v').mpr d1)
          subst this
          exact INS_one (a4 i (by omega)) hq c2 d2
        · exact absurd ((hv i v).mp c1) (d1 v)
      · rcases b2 i (by omega) with ⟨v', d1, d2⟩ | ⟨d1, d2⟩
        · exact absurd ((hv i v').mpr d1) (c1 v')
        · exact (c2.trans hq).trans d2.symm
  exact (a3.symm.trans (key k (Nat.le_refl k))).trans b3
theorem OFS.put {VL : Nat → Int → Prop} {k : Nat} {l l' : oL} (h : OFS VL k l) (h12 : l'.1 ≤ 12) (hs : (∃ v, VL k v ∧ INS l k v l') ∨ ((∀ v, ¬ VL k v) ∧ oEq l' l)) (hl : l.1 ≤ 12) : OFS VL (k + 1) l' := by
  obtain ⟨sq, a1, a2, a3, a4⟩ := h
  refine ⟨fun i => if i ≤ k then sq i else l', ?_, fun i hi => ?_, ?_, fun i hi => ?_⟩
  · show (if 0 ≤ k then sq 0 else l').1 = 0
    rw [if_pos (Nat.zero_le k)]
    exact a1
  · show (∃ v, VL i v ∧ INS (if i ≤ k then sq i else l') i v (if i + 1 ≤ k then sq (i + 1) else l')) ∨ ((∀ v, ¬ VL i v) ∧ oEq (if i + 1 ≤ k then sq (i + 1) else l') (if i ≤ k then sq i else l'))
    rw [if_pos (by omega)]
    by_cases hk : i + 1 ≤ k
    · rw [if_pos hk]
      exact a2 i (by omega)
    · rw [if_neg hk]
      have hik : i = k := by omega
      subst hik
      rcases hs with ⟨v, c1, p, d1, d2, d3, d4⟩ | ⟨c1, c2⟩
      · refine Or.inl ⟨v, c1, ?_⟩
        obtain ⟨e1, e2⟩ := a3
        refine ⟨p, by omega, ?_, fun j h1 h2 => ?_, ?_⟩
        · rcases d2 with z | z
          · exact Or.inl z
          · by_cases hp : p = 0
            · exact Or.inl hp
            · exact Or.inr (by rw [(e2 (p - 1) (by omega)).2]; exact z)
        · rw [(e2 j h2).2]
          exact d3 j h1 (by omega)
        · rcases d4 with ⟨f1, f2, f3⟩ | ⟨f1, f2, f3⟩
          · refine Or.inl ⟨f1, by omega, fun j hj => ?_⟩
            rw [(e2 j hj).1, (e2 j hj).2]
            exact f3 j (by omega)
          · refine Or.inr ⟨f1, by rw [e1]; exact f2, fun j hj => ?_⟩
            have f4 := f3 j hj
            refine ⟨fun h => ?_, f4.2.1, fun h => ?_⟩
            · rw [(e2 j (by omega)).1, (e2 j (by omega)).2]
              exact f4.1 h
            · rw [(e2 (j - 1) (by omega)).1, (e2 (j - 1) (by omega)).2]
              exact f4.2.2 h
      · exact Or.inr ⟨c1, c2.trans a3.symm⟩
  · show oEq (if k + 1 ≤ k then sq (k + 1) else l') l'
    rw [if_neg (by omega)]
    exact oEq.rfl'
  · show (if i ≤ k then sq i else l').1 ≤ 12
    by_cases hk : i ≤ k
    · rw [if_pos hk]
      exact a4 i hk
    · rw [if_neg hk]
      exact h12
