/-! the class's leads and tails -/
def ldS (B : Nat → Nat → Int) (tails : Nat → Int) (a k : Nat) (x : Int) : Prop := (a = 0 ∧ x = 0) ∨ ∃ j : Nat, j ≤ 8 ∧ tails (9 * a + j) < 268435456 ∧ x = tails (9 * a + j) + stp B j k
/-- the line up to b, of what was gone through: places ahead of a, and from a the ends and kinds that were seen -/
def TLq (B : Nat → Nat → Int) (t : Nat → Int) (n : Nat) (leads : Nat → Int) (a cb ck b k : Nat) (x : Int) : Prop := ∃ (a' e : Nat) (c : Int), (a' < a ∨ (a' = a ∧ seen cb ck b k)) ∧ PC B t n a' b e c ∧ kd (B 6) e = k ∧ leads (9 * a' + k) < 268435456 ∧ x = leads (9 * a' + k) + c
def TB (n : Nat) (tails : Nat → Int) : Prop := (∀ b k : Nat, b ≤ n → k ≤ 8 → (tails (9 * b + k) = 268435456 ∨ (-(4000 * (b : Int)) ≤ tails (9 * b + k) ∧ tails (9 * b + k) ≤ 4000 * (b : Int)))) ∧ ∀ i, inI (tails i)
def JT (B : Nat → Nat → Int) (t : Nat → Int) (n : Nat) (leads t0 : Nat → Int) (a cb ck : Nat) (tails : Nat → Int) : Prop := TB n tails ∧ (∀ i, i < 9 * (a + 1) → tails i = t0 i) ∧ ∀ b k : Nat, 1 ≤ b → b ≤ n → k ≤ 8 → Lst (TLq B t n leads a cb ck b k) 268435456 (tails (9 * b + k))
theorem JT.same {B : Nat → Nat → Int} {t : Nat → Int} {n : Nat} {leads t0 : Nat → Int} {a cb ck cb' ck' : Nat} {tails : Nat → Int} (h : JT B t n leads t0 a cb ck tails) (hS : ∀ b k, k ≤ 8 → ∀ x, TLq B t n leads a cb' ck' b k x ↔ TLq B t n leads a cb ck b k x) : JT B t n leads t0 a cb' ck' tails := ⟨h.1, h.2.1, fun b k h1 h2 h3 => (h.2.2 b k h1 h2 h3).iff (hS b k h3)⟩
theorem TLq_iff {B : Nat → Nat → Int} {t : Nat → Int} {n : Nat} {leads : Nat → Int} {a cb ck cb' ck' b k : Nat} {x : Int} (h : ∀ (e : Nat) (c : Int), PC B t n a b e c → kd (B 6) e = k → leads (9 * a + k) < 268435456 → (seen cb' ck' b k ↔ seen cb ck b k)) : TLq B t n leads a cb' ck' b k x ↔ TLq B t n leads a cb ck b k x := by
  constructor
  · rintro ⟨a', e, c, h0, h1, h2, h3, h4⟩
    refine ⟨a', e, c, ?_, h1, h2, h3, h4⟩
    rcases h0 with h0 | ⟨h0, h5⟩
    · exact Or.inl h0
    · subst h0
      exact Or.inr ⟨rfl, (h e c h1 h2 h3).mp h5⟩
  · rintro ⟨a', e, c, h0, h1, h2, h3, h4⟩
    refine ⟨a', e, c, ?_, h1, h2, h3, h4⟩
    rcases h0 with h0 | ⟨h0, h5⟩
    · exact Or.inl h0
    · subst h0
      exact Or.inr ⟨rfl, (h e c h1 h2 h3).mpr h5⟩
set_option maxHeartbeats 2000000 in
theorem q_goOn {B : Nat → Nat → Int} {t : Nat → Int} (hB : GB B) (hW : GW B) {n : Nat} (hn : n ≤ 36) (hX : FXC B n) {fv vals : Nat → Int} (hF : FV B t n fv) (hV : ∀ b, 1 ≤ b → b ≤ n → COL B t (B 18 0).toNat b vals) {a : Nat} (ha : a < n) (hpa : a = 0 ∨ B 17 a ≠ 2) {tails leads : Nat → Int} (hLd : ∀ k : Nat, k ≤ 8 → leads (9 * a + k) = 268435456 ∨ (-(4000 * (a : Int)) - 100 ≤ leads (9 * a + k) ∧ leads (9 * a + k) ≤ 4000 * (a : Int) + 100)) (hLI : ∀ i, inI (leads i)) (hJ : JT B t n leads tails a 0 0 tails) {x1 sl : Int} (e1 : x1 = a) (es : sl = n) :
    wp (m_X2_goOn x1 (B 6) tails leads fv sl (B 17) (B 19) vals) (fun u => JT B t n leads tails a (n + 1) 0 u) := by
  unfold m_X2_goOn
  refine wp_bind (q_reachFrom hB hn ha e1 es) ?_
  rintro r ⟨R, rfl, r1, r2, r3, r4⟩
  have hreach : ∀ b, a < b → b ≤ n → LT B n a b → b ≤ R := by
    intro b hab hbn hl
    by_cases h : b ≤ R
    · exact h
    · exfalso
      rcases r4 with r4 | r4
      · omega
      · exact hl.2.2 R r1 (by omega) r4
  refine wp_vl (wp_bind (P := fun u : Nat × Int × (Nat → Int) => JT B t n leads tails a (R + 1) 0 u.2.2) (wp_loop (fun j y => y.1 = ((a + 1 + j : Nat) : Int) ∧ JT B t n leads tails a (a + 1 + j) 0 y.2) (R - a) (by omega) ⟨by show x1 + 1 = _; omega, hJ.same (fun b k hk x => TLq_iff (fun e c h1 _ _ => ?_))⟩ ?_) ?_)
  · have := h1.1
    unfold seen
    omega
  · intro j y hj hs
    obtain ⟨a1, a2⟩ := hs
    unfold m_X2_goOn_13
    refine wp_gd (by omega) (wp_gd (by omega) (wp_if (fun c2 => ?_) (fun c2 => ?_)))
    · refine wp_end (by decide) ?_
      show JT B t n leads tails a (R + 1) 0 y.2
      rw [show R + 1 = a + 1 + j by omega]
      exact a2
    · obtain ⟨b, eb⟩ : ∃ b, b = a + 1 + j := ⟨_, rfl⟩
      rw [← eb] at a1 a2
      have hbR : b ≤ R := by omega
      refine wp_bind (P := fun u : Nat × Int × (Nat → Int) => JT B t n leads tails a (b + 1) 0 u.2.2) (wp_loop (fun k d => d.1 = (k : Int) ∧ JT B t n leads tails a b k d.2) 9 (by omega) ⟨rfl, a2⟩ ?_) ?_
      · intro k d hk hsd
        obtain ⟨d1, d2⟩ := hsd
        unfold m_X2_goOn_21
        refine wp_gd (by omega) (wp_if (fun c3 => ?_) (fun c3 => ?_))
        · refine wp_end (by decide) (d2.same (fun b' k' hk' x => TLq_iff (fun e c _ _ _ => ?_)))
          unfold seen
          omega
        · refine wp_bind (q_partsAt hB hn (p := b) (by omega) a1 es) ?_
          intro r5 hr5
          refine wp_gd (by omega) (wp_if (fun c4 => ?_) (fun c4 => ?_))
          · have hno : ¬ (b = 0 ∨ b = n ∨ B 17 b ≠ 2) := by
              rcases hr5 with ⟨z, _⟩ | ⟨_, z⟩
              · omega
              · exact z
            refine wp_end (by decide) (d2.same (fun b' k' hk' x => TLq_iff (fun e c h1 _ _ => ?_)))
            have hb : b' ≠ b := by
              intro z
              subst z
              rcases (PC_LT h1).2.1 with h | h
              · exact hno (Or.inr (Or.inl h))
              · exact hno (Or.inr (Or.inr h))
            unfold seen
            omega
          · have hlt : LT B n a b := by
              refine ⟨hpa, ?_, fun p h1 h2 => r3 p h1 (by omega)⟩
              rcases hr5 with ⟨_, z⟩ | ⟨z, _⟩
              · rcases z with z | z | z
                · omega
                · exact Or.inl z
                · exact Or.inr z
              · omega
            have hnext : (∀ (e : Nat) (c : Int), PC B t n a b e c → kd (B 6) e = k → ¬ leads (9 * a + k) < 268435456) → JT B t n leads tails a b (k + 1) d.2 := by
              intro hno
              refine d2.same (fun b' k' hk' x => TLq_iff (fun e c h1 h2 h3 => ?_))
              by_cases hz : b' = b ∧ k' = k
              · obtain ⟨rfl, rfl⟩ := hz
                exact absurd h3 (hno e c h1 h2)
              · unfold seen
                omega
            refine wp_bind (q_valueOf hB hW hn hX hF hV (a := a) (b := b) (k := k) (by omega) (by omega) (by omega) e1 a1 d1) ?_
            intro v hv
            have hvb : v = 2147483647 ∨ (-400000 ≤ v ∧ v ≤ 4000000) := by
              by_cases h : v = 2147483647
              · exact Or.inl h
              · exact Or.inr (VV_bd hB hW (hv.mem h))
            have el : (x1 * 9 + d.1).toNat = 9 * a + k := by omega
            rw [el]
            have hlb := hLd k (by omega)
            refine wp_gd (by omega) (wp_vl (wp_gd (by omega) (wp_if (fun c5 => ?_) (fun c5 => ?_))))
            · refine wp_vl (wp_go ⟨by omega, by show d.1 + 1 = _; omega, hnext (fun e c h1 h2 => ?_)⟩)
              rw [c5] at hv
              exact absurd (VV_none hv h1 h2) id
            · refine wp_gd (hLI _) (wp_if (fun c6 => ?_) (fun c6 => ?_))
              · exact wp_vl (wp_go ⟨by omega, by show d.1 + 1 = _; omega, hnext (fun e c h1 h2 => by omega)⟩)
              · obtain ⟨e0, p1, p2, p3, p4⟩ := VV_least (n := n) (by omega) (by omega) hlt hv c5
                have hcb := CL_bd hB hW p1.2.1 p1.2.2.2.1
                have et : (y.1 * 9 + d.1).toNat = 9 * b + k := by omega
                have htb := d2.1.1 b k (by omega) (by omega)
                refine wp_vl ?_
                rw [et]
                refine wp_gd (by omega) (wp_gd (d2.1.2 _) (wp_gd (by omega) (wp_gd (by omega) (wp_vl (wp_vl (wp_go ⟨by omega, by show d.1 + 1 = _; omega, ⟨fun b' k' h1 h2 => ?_, uz_inI d2.1.2 (by omega)⟩, fun i hi => ?_, fun b' k' h1 h2 h3 => ?_⟩))))))
                · show uz d.2 (9 * b + k) (min (d.2 (9 * b + k)) (leads (9 * a + k) + v / 1024)) (9 * b' + k') = 268435456 ∨ (-(4000 * (b' : Int)) ≤ uz d.2 (9 * b + k) (min (d.2 (9 * b + k)) (leads (9 * a + k) + v / 1024)) (9 * b' + k') ∧ uz d.2 (9 * b + k) (min (d.2 (9 * b + k)) (leads (9 * a + k) + v / 1024)) (9 * b' + k') ≤ 4000 * (b' : Int))
                  by_cases hz : b' = b ∧ k' = k
                  · obtain ⟨rfl, rfl⟩ := hz
                    rw [uz_at]
                    omega
                  · rw [uz_ne _ _ (by omega)]
                    exact d2.1.1 b' k' h1 h2
                · show uz d.2 (9 * b + k) _ i = _
                  rw [uz_ne _ _ (by omega)]
                  exact d2.2.1 i hi
                · show Lst _ 268435456 (uz d.2 (9 * b + k) (min (d.2 (9 * b + k)) (leads (9 * a + k) + v / 1024)) (9 * b' + k'))
                  by_cases hz : b' = b ∧ k' = k
                  · obtain ⟨rfl, rfl⟩ := hz
                    rw [uz_at]
                    refine Lst.dom ((d2.2.2 b' k' h1 h2 h3).push (S' := fun x => TLq B t n leads a b' k' b' k' x ∨ x = leads (9 * a + k') + v / 1024) (by omega) (fun x => Iff.rfl)) ?_ ?_
                    · rintro x (⟨a', e, c, h0, h4⟩ | rfl)
                      · refine ⟨a', e, c, ?_, h4⟩
                        unfold seen at h0 ⊢
                        omega
                      · exact ⟨a, e0, v / 1024, Or.inr ⟨rfl, Or.inr ⟨rfl, by omega⟩⟩, p1, p3, by omega, rfl⟩
                    · rintro x ⟨a', e, c, h0, h4, h5, h6, h7⟩
                      by_cases haa : a' = a
                      · subst haa
                        have := (p4 e c h4 h5).1
                        exact ⟨_, Or.inr rfl, by omega⟩
                      · refine ⟨x, Or.inl ⟨a', e, c, Or.inl ?_, h4, h5, h6, h7⟩, Int.le_refl _⟩
                        omega
                  · rw [uz_ne _ _ (by omega)]
                    refine (d2.2.2 b' k' h1 h2 h3).iff (fun x => TLq_iff (fun e c _ _ _ => ?_))
                    unfold seen
                    omega
      · rintro ⟨t21, y4, hd⟩ hu
        refine wp_vl (wp_go ⟨by omega, by show y.1 + 1 = _; omega, ?_⟩)
        rw [show a + 1 + (j + 1) = b + 1 by omega]
        exact hu
  · rintro ⟨t13, y3, hd⟩ hu
    have hu : JT B t n leads tails a (R + 1) 0 hd := hu
    refine wp_some (hu.same (fun b k hk x => TLq_iff (fun e c h1 _ _ => ?_)))
    have h2 := h1.1
    have := hreach b h1.1.1 h1.1.2 (PC_LT h1)
    unfold seen
    omega
