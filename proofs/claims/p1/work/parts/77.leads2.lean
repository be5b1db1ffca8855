/-! the class's leads, whole; beside the reference's costs ahead -/
theorem ldS_eq {B : Nat → Nat → Int} {f g : Nat → Int} {a k : Nat} (h : ∀ j, j ≤ 8 → f (9 * a + j) = g (9 * a + j)) {x : Int} : ldS B f a k x ↔ ldS B g a k x := by
  constructor
  · rintro (h1 | ⟨j, h1, h2, h3⟩)
    · exact Or.inl h1
    · rw [h j h1] at h2 h3
      exact Or.inr ⟨j, h1, h2, h3⟩
  · rintro (h1 | ⟨j, h1, h2, h3⟩)
    · exact Or.inl h1
    · rw [← h j h1] at h2 h3
      exact Or.inr ⟨j, h1, h2, h3⟩
set_option maxHeartbeats 2000000 in
theorem q_fillLeads {B : Nat → Nat → Int} (hS : GS B) {n a : Nat} (hn : n ≤ 36) (ha : a < n) {tails leads sc : Nat → Int} (hsc : SCo B sc) (hT : TB n tails) (hz : ∀ k, k ≤ 8 → tails k = 268435456) (hLI : ∀ i, inI (leads i)) {x1 : Int} (e1 : x1 = a) :
    wp (m_X2_fillLeads x1 sc tails leads) (fun u => (∀ k : Nat, k ≤ 8 → Lst (ldS B tails a k) 268435456 (u (9 * a + k)) ∧ (u (9 * a + k) = 268435456 ∨ (-(4000 * (a : Int)) - 100 ≤ u (9 * a + k) ∧ u (9 * a + k) ≤ 4000 * (a : Int) + 100))) ∧ (∀ i, (i < 9 * a ∨ 9 * (a + 1) ≤ i) → u i = leads i) ∧ ∀ i, inI (u i)) := by
  have hone : ∀ (k : Nat) (x2 t0 : Int) (ld : Nat → Int), k ≤ 8 → x2 = k → ((a = 0 ∧ t0 = 0) ∨ (a ≠ 0 ∧ t0 = 268435456)) → wp (zloop (fun y => m_X2_fillLeads_22 x1 x2 y.1 y.2 sc tails ld) FU (t0, 0)) (fun u => Lst (ldS B tails a k) 268435456 u.2.1 ∧ (u.2.1 = 268435456 ∨ (-(4000 * (a : Int)) - 100 ≤ u.2.1 ∧ u.2.1 ≤ 4000 * (a : Int) + 100))) := by
    intro k x2 t0 ld hk e2 ht0
    refine wp_loop (fun j y => y.2 = (j : Int) ∧ Lst (fun x => (a = 0 ∧ x = 0) ∨ ∃ j' : Nat, j' < j ∧ tails (9 * a + j') < 268435456 ∧ x = tails (9 * a + j') + stp B j' k) 268435456 y.1 ∧ (y.1 = 268435456 ∨ (-(4000 * (a : Int)) - 100 ≤ y.1 ∧ y.1 ≤ 4000 * (a : Int) + 100))) 9 (by omega) ⟨rfl, ?_, by show t0 = 268435456 ∨ _; omega⟩ ?_
    · show Lst _ 268435456 t0
      rcases ht0 with ⟨h1, h2⟩ | ⟨h1, h2⟩
      · rw [h2]
        refine Or.inr ⟨by decide, Or.inl ⟨h1, rfl⟩, ?_⟩
        rintro x (⟨_, h3⟩ | ⟨j', h3, _⟩)
        · omega
        · omega
      · rw [h2]
        refine Lst.none ?_
        rintro x (⟨h3, _⟩ | ⟨j', h3, _⟩)
        · exact h1 h3
        · omega
    · intro j y hj hs
      obtain ⟨a1, a2, a3⟩ := hs
      unfold m_X2_fillLeads_22
      refine wp_gd (by omega) (wp_if (fun c1 => ?_) (fun c1 => ?_))
      · refine wp_end (by decide) ⟨a2.iff (fun x => ?_), a3⟩
        constructor
        · rintro (h1 | ⟨j', h1, h2⟩)
          · exact Or.inl h1
          · exact Or.inr ⟨j', by omega, h2⟩
        · rintro (h1 | ⟨j', h1, h2⟩)
          · exact Or.inl h1
          · exact Or.inr ⟨j', by omega, h2⟩
      · have et : (x1 * 9 + y.2).toNat = 9 * a + j := by omega
        have htb := hT.1 a j (by omega) (by omega)
        rw [et]
        refine wp_gd (by omega) (wp_vl (wp_gd (hT.2 _) (wp_if (fun c2 => ?_) (fun c2 => ?_))))
        · refine wp_vl (wp_go ⟨by omega, by show y.2 + 1 = _; omega, a2.iff (fun x => ?_), a3⟩)
          constructor
          · rintro (h1 | ⟨j', h1, h2, h3⟩)
            · exact Or.inl h1
            · have : j' ≠ j := fun z => by rw [z] at h2; omega
              exact Or.inr ⟨j', by omega, h2, h3⟩
          · rintro (h1 | ⟨j', h1, h2⟩)
            · exact Or.inl h1
            · exact Or.inr ⟨j', by omega, h2⟩
        · have ec : (y.2 * 9 + x2).toNat = 9 * j + k := by omega
          have hst := stp_bd hS (k := (j : Int)) (j := (k : Int)) (by omega) (by omega)
          rw [ec, hsc j k (by omega) hk]
          refine wp_gd (by omega) (wp_gd (by omega) (wp_gd (by omega) (wp_vl (wp_vl (wp_go ⟨by omega, by show y.2 + 1 = _; omega, ?_, ?_⟩)))))
          · refine a2.push (by omega) (fun x => ?_)
            constructor
            · rintro (h1 | ⟨j', h1, h2, h3⟩)
              · exact Or.inl (Or.inl h1)
              · by_cases hjj : j' = j
                · subst hjj
                  exact Or.inr h3
                · exact Or.inl (Or.inr ⟨j', by omega, h2, h3⟩)
            · rintro ((h1 | ⟨j', h1, h2⟩) | rfl)
              · exact Or.inl h1
              · exact Or.inr ⟨j', by omega, h2⟩
              · exact Or.inr ⟨j, by omega, by omega, rfl⟩
          · show min y.1 (tails (9 * a + j) + stp B j k) = 268435456 ∨ (-(4000 * (a : Int)) - 100 ≤ min y.1 (tails (9 * a + j) + stp B j k) ∧ min y.1 (tails (9 * a + j) + stp B j k) ≤ 4000 * (a : Int) + 100)
            omega
  unfold m_X2_fillLeads
  refine wp_bind (P := fun u : Nat × Int × (Nat → Int) => (∀ k : Nat, k ≤ 8 → Lst (ldS B tails a k) 268435456 (u.2.2 (9 * a + k)) ∧ (u.2.2 (9 * a + k) = 268435456 ∨ (-(4000 * (a : Int)) - 100 ≤ u.2.2 (9 * a + k) ∧ u.2.2 (9 * a + k) ≤ 4000 * (a : Int) + 100))) ∧ (∀ i, (i < 9 * a ∨ 9 * (a + 1) ≤ i) → u.2.2 i = leads i) ∧ ∀ i, inI (u.2.2 i)) (wp_loop (fun k y => y.1 = (k : Int) ∧ (∀ k' : Nat, k' < k → k' ≤ 8 → Lst (ldS B tails a k') 268435456 (y.2 (9 * a + k')) ∧ (y.2 (9 * a + k') = 268435456 ∨ (-(4000 * (a : Int)) - 100 ≤ y.2 (9 * a + k') ∧ y.2 (9 * a + k') ≤ 4000 * (a : Int) + 100))) ∧ (∀ i, (i < 9 * a ∨ 9 * (a + 1) ≤ i) → y.2 i = leads i) ∧ ∀ i, inI (y.2 i)) 9 (by omega) ⟨rfl, fun k' h => absurd h (by omega), fun i _ => rfl, hLI⟩ ?_) ?_
  · intro k y hk hs
    obtain ⟨a1, a2, a3, a4⟩ := hs
    have h18 : ∀ t0 : Int, k ≤ 8 → ((a = 0 ∧ t0 = 0) ∨ (a ≠ 0 ∧ t0 = 268435456)) → wp (m_X2_fillLeads_18 x1 y.1 t0 sc tails y.2) (fun u : Nat × Int × (Nat → Int) => u.1 = 0 ∧ u.2.1 = ((k + 1 : Nat) : Int) ∧ (∀ k' : Nat, k' < k + 1 → k' ≤ 8 → Lst (ldS B tails a k') 268435456 (u.2.2 (9 * a + k')) ∧ (u.2.2 (9 * a + k') = 268435456 ∨ (-(4000 * (a : Int)) - 100 ≤ u.2.2 (9 * a + k') ∧ u.2.2 (9 * a + k') ≤ 4000 * (a : Int) + 100))) ∧ (∀ i, (i < 9 * a ∨ 9 * (a + 1) ≤ i) → u.2.2 i = leads i) ∧ ∀ i, inI (u.2.2 i)) := by
      intro t0 hk8 ht0
      unfold m_X2_fillLeads_18
      refine wp_bind (hone k y.1 t0 y.2 hk8 a1 ht0) ?_
      rintro ⟨t22, y3, y4⟩ ⟨u1, u2⟩
      have u1 : Lst (ldS B tails a k) 268435456 y3 := u1
      have u2 : y3 = 268435456 ∨ (-(4000 * (a : Int)) - 100 ≤ y3 ∧ y3 ≤ 4000 * (a : Int) + 100) := u2
      have eh : (x1 * 9 + y.1).toNat = 9 * a + k := by omega
      rw [eh]
      refine wp_gd (by omega) (wp_vl (wp_vl (wp_some ⟨rfl, by show y.1 + 1 = _; omega, fun k' h1 h2 => ?_, fun i hi => ?_, uz_inI a4 (by omega)⟩)))
      · show Lst _ 268435456 (uz y.2 (9 * a + k) y3 (9 * a + k')) ∧ (uz y.2 (9 * a + k) y3 (9 * a + k') = 268435456 ∨ (-(4000 * (a : Int)) - 100 ≤ uz y.2 (9 * a + k) y3 (9 * a + k') ∧ uz y.2 (9 * a + k) y3 (9 * a + k') ≤ 4000 * (a : Int) + 100))
        by_cases hkk : k' = k
        · subst hkk
          rw [uz_at]
          exact ⟨u1, u2⟩
        · rw [uz_ne _ _ (by omega)]
          exact a2 k' (by omega) h2
      · show uz y.2 (9 * a + k) y3 i = _
        rw [uz_ne _ _ (by omega)]
        exact a3 i hi
    unfold m_X2_fillLeads_2
    refine wp_gd (by omega) (wp_if (fun c1 => ?_) (fun c1 => ?_))
    · exact wp_end (by decide) ⟨fun k' hk' => a2 k' (by omega) hk', a3, a4⟩
    · refine wp_gd (by omega) (wp_if (fun c2 => ?_) (fun c2 => ?_))
      · refine wp_mono (h18 0 (by omega) (Or.inl ⟨by omega, rfl⟩)) ?_
        rintro u ⟨u1, u2⟩
        exact ⟨fun _ => ⟨by omega, u2⟩, fun z => absurd u1 z⟩
      · refine wp_mono (h18 268435456 (by omega) (Or.inr ⟨by omega, rfl⟩)) ?_
        rintro u ⟨u1, u2⟩
        exact ⟨fun _ => ⟨by omega, u2⟩, fun z => absurd u1 z⟩
  · rintro ⟨t2, y2, rr⟩ hu
    exact wp_some hu
/-- what the class knows of the line ahead of each place -/
def LDC (B : Nat → Nat → Int) (t : Nat → Int) (n : Nat) (tails leads : Nat → Int) : Prop := TB n tails ∧ (∀ i, inI (leads i)) ∧ (∀ k, k ≤ 8 → tails k = 268435456) ∧ (∀ a k : Nat, a < n → k ≤ 8 → Lst (ldS B tails a k) 268435456 (leads (9 * a + k)) ∧ (leads (9 * a + k) = 268435456 ∨ (-(4000 * (a : Int)) - 100 ≤ leads (9 * a + k) ∧ leads (9 * a + k) ≤ 4000 * (a : Int) + 100))) ∧ ∀ b k : Nat, 1 ≤ b → b ≤ n → k ≤ 8 → Lst (fun x => ∃ (a e : Nat) (c : Int), PC B t n a b e c ∧ kd (B 6) e = k ∧ leads (9 * a + k) < 268435456 ∧ x = leads (9 * a + k) + c) 268435456 (tails (9 * b + k))
set_option maxHeartbeats 2000000 in
theorem q_allLeads {B : Nat → Nat → Int} {t : Nat → Int} (hB : GB B) (hW : GW B) (hS : GS B) {n : Nat} (hn : n ≤ 36) (hX : FXC B n) {fv vals : Nat → Int} (hF : FV B t n fv) (hV : ∀ b, 1 ≤ b → b ≤ n → COL B t (B 18 0).toNat b vals) {tails leads sc : Nat → Int} (hsc : SCo B sc) (hTI : ∀ i, inI (tails i)) (hLI : ∀ i, inI (leads i)) {known sl : Int} (es : sl = n) (hkn : known = 0 ∨ (known = 1 ∧ LDC B t n tails leads)) :
    wp (m_X2_fillAllLeads (B 6) sc tails leads known fv sl (B 17) (B 19) vals) (fun u => LDC B t n u.1 u.2.1 ∧ u.2.2 = 1) := by
  unfold m_X2_fillAllLeads
  refine wp_gd (by omega) (wp_if (fun c1 => ?_) (fun c1 => ?_))
  · refine wp_eq (q_fill (by decide)) ?_
    have hf : ∀ i, i < 333 → fz tails 0 333 268435456 i = 268435456 := fun i hi => fz_in _ _ (by omega)
    refine wp_bind (P := fun u : Nat × Int × (Nat → Int) × (Nat → Int) => LDC B t n u.2.2.1 u.2.2.2) (wp_loop (fun a y => y.1 = (a : Int) ∧ TB n y.2.1 ∧ (∀ i, inI (y.2.2 i)) ∧ (∀ k, k ≤ 8 → y.2.1 k = 268435456) ∧ (∀ a' k : Nat, a' < a → k ≤ 8 → Lst (ldS B y.2.1 a' k) 268435456 (y.2.2 (9 * a' + k)) ∧ (y.2.2 (9 * a' + k) = 268435456 ∨ (-(4000 * (a' : Int)) - 100 ≤ y.2.2 (9 * a' + k) ∧ y.2.2 (9 * a' + k) ≤ 4000 * (a' : Int) + 100))) ∧ ∀ b k : Nat, 1 ≤ b → b ≤ n → k ≤ 8 → Lst (TLq B t n y.2.2 a 0 0 b k) 268435456 (y.2.1 (9 * b + k))) n (by omega) ⟨rfl, ⟨fun b k h1 h2 => Or.inl (hf _ (by omega)), fz_inI hTI (by decide)⟩, hLI, fun k hk => hf k (by omega), fun a' k h => absurd h (by omega), fun b k h1 h2 h3 => ?_⟩ ?_) ?_
    · show Lst _ 268435456 (fz tails 0 333 268435456 (9 * b + k))
      rw [hf _ (by omega)]
      refine Lst.none ?_
      rintro x ⟨a', e, c, h0, _⟩
      unfold seen at h0
      omega
    · intro a y ha hs
      obtain ⟨a1, a2, a3, a4, a5, a6⟩ := hs
      unfold m_X2_fillAllLeads_24
      refine wp_gd (by omega) (wp_gd (by omega) (wp_if (fun c2 => ?_) (fun c2 => ?_)))
      · have han : a = n := by omega
        subst han
        refine wp_end (by decide) ⟨a2, a3, a4, a5, fun b k h1 h2 h3 => (a6 b k h1 h2 h3).iff (fun x => ?_)⟩
        constructor
        · rintro ⟨a', e, c, h4, h5⟩
          have := h4.1
          exact ⟨a', e, c, Or.inl (by omega), h4, h5⟩
        · rintro ⟨a', e, c, _, h4⟩
          exact ⟨a', e, c, h4⟩
      · refine wp_bind (q_fillLeads hS hn (a := a) (by omega) hsc a2 a4 a3 a1) ?_
        rintro ld ⟨l1, l2, l3⟩
        have hld : ∀ a' k : Nat, a' < a → k ≤ 8 → ld (9 * a' + k) = y.2.2 (9 * a' + k) := fun a' k h1 h2 => l2 _ (by omega)
        have hsets : ∀ b k : Nat, k ≤ 8 → ∀ x, TLq B t n ld a 0 0 b k x ↔ TLq B t n y.2.2 a 0 0 b k x := by
          intro b k hk x
          constructor
          · rintro ⟨a', e, c, h0, h1, h2, h3, h4⟩
            have haa : a' < a := by
              unfold seen at h0
              omega
            rw [hld a' k haa hk] at h3 h4
            exact ⟨a', e, c, Or.inl haa, h1, h2, h3, h4⟩
          · rintro ⟨a', e, c, h0, h1, h2, h3, h4⟩
            have haa : a' < a := by
              unfold seen at h0
              omega
            rw [← hld a' k haa hk] at h3 h4
            exact ⟨a', e, c, Or.inl haa, h1, h2, h3, h4⟩
        have hJ0 : JT B t n ld y.2.1 a 0 0 y.2.1 := ⟨a2, fun i _ => rfl, fun b k h1 h2 h3 => (a6 b k h1 h2 h3).iff (hsets b k h3)⟩
        have hleads : ∀ (tl : Nat → Int), (∀ i, i < 9 * (a + 1) → tl i = y.2.1 i) → ∀ a' k : Nat, a' < a + 1 → k ≤ 8 → Lst (ldS B tl a' k) 268435456 (ld (9 * a' + k)) ∧ (ld (9 * a' + k) = 268435456 ∨ (-(4000 * (a' : Int)) - 100 ≤ ld (9 * a' + k) ∧ ld (9 * a' + k) ≤ 4000 * (a' : Int) + 100)) := by
          intro tl htl a' k h1 h2
          by_cases haa : a' = a
          · subst haa
            exact ⟨(l1 k h2).1.iff (fun x => ldS_eq (fun j hj => htl _ (by omega))), (l1 k h2).2⟩
          · rw [hld a' k (by omega) h2]
            exact ⟨(a5 a' k (by omega) h2).1.iff (fun x => ldS_eq (fun j hj => htl _ (by omega))), (a5 a' k (by omega) h2).2⟩
        refine wp_bind (q_partsAt hB hn (p := a) (by omega) a1 es) ?_
        intro r hr
        refine wp_gd (by omega) (wp_if (fun c3 => ?_) (fun c3 => ?_))
        · have hno : ¬ (a = 0 ∨ a = n ∨ B 17 a ≠ 2) := by
            rcases hr with ⟨z, _⟩ | ⟨_, z⟩
            · omega
            · exact z
          refine wp_vl (wp_go ⟨by omega, by show y.1 + 1 = _; omega, a2, l3, a4, hleads _ (fun i _ => rfl), fun b k h1 h2 h3 => (hJ0.2.2 b k h1 h2 h3).iff (fun x => ?_)⟩)
          constructor
          · rintro ⟨a', e, c, h0, h4, h5⟩
            refine ⟨a', e, c, Or.inl ?_, h4, h5⟩
            have hle : a' ≤ a := by
              unfold seen at h0
              omega
            by_cases haa : a' = a
            · subst haa
              exfalso
              rcases (PC_LT h4).1 with z | z
              · exact hno (Or.inl z)
              · exact hno (Or.inr (Or.inr z))
            · omega
          · rintro ⟨a', e, c, h0, h4⟩
            refine ⟨a', e, c, Or.inl ?_, h4⟩
            unfold seen at h0
            omega
        · have hpa : a = 0 ∨ B 17 a ≠ 2 := by
            rcases hr with ⟨_, z⟩ | ⟨z, _⟩
            · rcases z with z | z | z
              · exact Or.inl z
              · omega
              · exact Or.inr z
            · omega
          refine wp_bind (q_goOn hB hW hn hX hF hV (a := a) (by omega) hpa (fun k hk => (l1 k hk).2) l3 hJ0 a1 es) ?_
          rintro tl ⟨t1, t2, t3⟩
          refine wp_vl (wp_go ⟨by omega, by show y.1 + 1 = _; omega, t1, l3, fun k hk => (t2 k (by omega)).trans (a4 k hk), hleads _ t2, fun b k h1 h2 h3 => (t3 b k h1 h2 h3).iff (fun x => ?_)⟩)
          constructor
          · rintro ⟨a', e, c, h0, h4, h5⟩
            have hbn := h4.1
            refine ⟨a', e, c, ?_, h4, h5⟩
            unfold seen at h0 ⊢
            omega
          · rintro ⟨a', e, c, h0, h4⟩
            refine ⟨a', e, c, Or.inl ?_, h4⟩
            unfold seen at h0
            omega
    · rintro ⟨t24, y1, tl, ld⟩ hu
      exact wp_some ⟨hu, rfl⟩
  · rcases hkn with z | ⟨z, hd⟩
    · exact absurd z c1
    · exact wp_some ⟨hd, z⟩
/-- both sides' costs ahead are the same -/
theorem leads_agree {B : Nat → Nat → Int} {t : Nat → Int} {n : Nat} {tails leads ah : Nat → Int} (h1 : LDC B t n tails leads) (h2 : AHD B t n ah) : ∀ a : Nat, a < n → ∀ k : Nat, k ≤ 8 → ∀ v, Lst (fwd B ah a k) 134217728 v → (leads (9 * a + k) = 268435456 ∧ v = 134217728) ∨ (leads (9 * a + k) = v ∧ leads (9 * a + k) < 268435456 ∧ v < 134217728) := by
  have key : ∀ a : Nat, a ≤ n → ∀ k : Nat, k ≤ 8 → ∀ x : Int, a < n → (ldS B tails a k x ↔ fwd B ah a k x) := by
    intro a
    induction a using Nat.strongRecOn with
    | ind a ih =>
      intro han k hk x han2
      by_cases h0 : a = 0
      · subst h0
        constructor
        · rintro (⟨_, h3⟩ | ⟨j, h3, h4, _⟩)
          · refine ⟨9, by omega, ?_, ?_⟩
            · show ah (10 * 0 + 9) < 134217728
              rw [show 10 * 0 + 9 = 9 by omega, h2.2.1]
              decide
            · rw [show 10 * 0 + 9 = 9 by omega, h2.2.1, h3]
              unfold stp
              rw [if_pos (show ((9 : Nat) : Int) = 9 from rfl)]
              rfl
          · have := h1.2.2.1 j h3
            rw [show 9 * 0 + j = j by omega] at h4
            omega
        · rintro ⟨k', h3, h4, h5⟩
          by_cases hk9 : k' = 9
          · subst hk9
            rw [show 10 * 0 + 9 = 9 by omega, h2.2.1] at h5
            refine Or.inl ⟨rfl, ?_⟩
            rw [h5]
            unfold stp
            rw [if_pos (show ((9 : Nat) : Int) = 9 from rfl)]
            rfl
          · have := h2.2.2.1 k' (by omega)
            rw [show 10 * 0 + k' = k' by omega] at h4
            omega
      · have htail : ∀ j : Nat, j ≤ 8 → (tails (9 * a + j) = 268435456 ∧ ah (10 * a + j) = 134217728) ∨ (tails (9 * a + j) = ah (10 * a + j) ∧ tails (9 * a + j) < 268435456 ∧ ah (10 * a + j) < 134217728) := by
          intro j hj
          have l1 := h1.2.2.2.2 a j (by omega) han hj
          have l2 := h2.2.2.2.2 a j (by omega) han hj
          have l3 : Lst (fun x => ∃ (a' e : Nat) (c : Int), PC B t n a' a e c ∧ kd (B 6) e = j ∧ leads (9 * a' + j) < 268435456 ∧ x = leads (9 * a' + j) + c) 134217728 (ah (10 * a + j)) := by
            rcases l2 with ⟨z1, z2⟩ | ⟨z1, z2, z3⟩
            · refine Or.inl ⟨z1, ?_⟩
              rintro x ⟨a', e, c, g1, g2, g3, g4⟩
              have g5 := g1.1
              have g6 := (h1.2.2.2.1 a' j (by omega) hj).1.mem (by omega)
              exact z2 _ ⟨a', e, c, leads (9 * a' + j), g1, g2, (ih a' g5.1 (by omega) j hj _ (by omega)).mp g6, rfl⟩
            · refine Or.inr ⟨z1, ?_, ?_⟩
              · obtain ⟨a', e, c, y, g1, g2, g3, g4⟩ := z2
                have g5 := g1.1
                have g6 := (ih a' g5.1 (by omega) j hj _ (by omega)).mpr g3
                have g7 := (h1.2.2.2.1 a' j (by omega) hj).1.le g6
                have g8 := (h1.2.2.2.1 a' j (by omega) hj).1.mem (by omega)
                have g9 := z3 _ ⟨a', e, c, leads (9 * a' + j), g1, g2, (ih a' g5.1 (by omega) j hj _ (by omega)).mp g8, rfl⟩
                exact ⟨a', e, c, g1, g2, g7.2, by omega⟩
              · rintro x ⟨a', e, c, g1, g2, g3, g4⟩
                have g5 := g1.1
                have g6 := (h1.2.2.2.1 a' j (by omega) hj).1.mem (by omega)
                exact z3 _ ⟨a', e, c, leads (9 * a' + j), g1, g2, (ih a' g5.1 (by omega) j hj _ (by omega)).mp g6, g4⟩
          rcases l1.two l3 with h | ⟨g1, g2, g3, _⟩
          · exact Or.inl h
          · exact Or.inr ⟨g1, g2, g3⟩
        constructor
        · rintro (⟨z, _⟩ | ⟨j, h3, h4, h5⟩)
          · exact absurd z h0
          · rcases htail j h3 with ⟨z, _⟩ | ⟨z1, z2, z3⟩
            · omega
            · exact ⟨j, by omega, z3, by rw [← z1]; exact h5⟩
        · rintro ⟨k', h3, h4, h5⟩
          by_cases hk9 : k' = 9
          · subst hk9
            have := h2.2.2.2.1 a (by omega) han
            omega
          · rcases htail k' (by omega) with ⟨_, z⟩ | ⟨z1, z2, z3⟩
            · omega
            · exact Or.inr ⟨k', by omega, z2, by rw [z1]; exact h5⟩
  intro a han k hk v hv
  have l1 := (h1.2.2.2.1 a k han hk).1
  have l2 : Lst (ldS B tails a k) 134217728 v := hv.iff (fun x => key a (by omega) k hk x han)
  rcases l1.two l2 with h | ⟨g1, g2, g3, _⟩
  · exact Or.inl h
  · exact Or.inr ⟨g1, g2, g3⟩
