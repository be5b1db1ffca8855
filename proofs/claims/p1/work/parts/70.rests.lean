/-! heads and rests -/
/-- a part of a kind with its rest, from a place -/
def HS (B : Nat → Nat → Int) (t : Nat → Int) (n a : Nat) (rests : Nat → Int) (k : Nat) (x : Int) : Prop := ∃ (e b : Nat) (c : Int), PC B t n a b e c ∧ kd (B 6) e = k ∧ rests (9 * b + k) < 268435456 ∧ x = c + rests (9 * b + k)
/-- what the loop has seen: ends below b, and of b the kinds below k -/
def HSp (B : Nat → Nat → Int) (t : Nat → Int) (n a : Nat) (rests : Nat → Int) (cb ck k : Nat) (x : Int) : Prop := ∃ (e b : Nat) (c : Int), (b < cb ∨ (b = cb ∧ k < ck)) ∧ PC B t n a b e c ∧ kd (B 6) e = k ∧ rests (9 * b + k) < 268435456 ∧ x = c + rests (9 * b + k)
def RBc (n lo : Nat) (rests : Nat → Int) : Prop := (∀ (b k : Nat), lo ≤ b → b ≤ n → k ≤ 8 → (rests (9 * b + k) = 268435456 ∨ (-(4000 * ((n : Int) - b)) ≤ rests (9 * b + k) ∧ rests (9 * b + k) ≤ 4000 * ((n : Int) - b)))) ∧ ∀ i, inI (rests i)
def HI (B : Nat → Nat → Int) (t : Nat → Int) (n a : Nat) (rests h0 : Nat → Int) (cb ck : Nat) (heads : Nat → Int) : Prop := (∀ k, k ≤ 8 → Lst (HSp B t n a rests cb ck k) 268435456 (heads (9 * a + k))) ∧ (∀ i, 9 * (a + 1) ≤ i → heads i = h0 i) ∧ ∀ i, inI (heads i)
theorem HI.same {B : Nat → Nat → Int} {t : Nat → Int} {n a : Nat} {rests h0 : Nat → Int} {cb ck cb' ck' : Nat} {heads : Nat → Int} (h : HI B t n a rests h0 cb ck heads) (hS : ∀ k, k ≤ 8 → ∀ x, HSp B t n a rests cb' ck' k x ↔ HSp B t n a rests cb ck k x) : HI B t n a rests h0 cb' ck' heads := ⟨fun k hk => (h.1 k hk).iff (hS k hk), h.2⟩
/-- the least value of a stretch's kind: the least cost of its parts -/
theorem VV_least {B : Nat → Nat → Int} {t : Nat → Int} {n a b k : Nat} (hab : a < b) (hbn : b ≤ n) (hl : LT B n a b) {v : Int} (h : Lst (VV B t a b k) 2147483647 v) (hv : v ≠ 2147483647) : ∃ e : Nat, PC B t n a b e (v / 1024) ∧ (e : Int) = v % 1024 ∧ kd (B 6) e = k ∧ ∀ (e' : Nat) (c' : Int), PC B t n a b e' c' → kd (B 6) e' = k → v / 1024 ≤ c' ∧ (v / 1024 = c' → v % 1024 ≤ e') := by
  obtain ⟨e, h1, h2, h3, c, h4, h5⟩ := h.mem hv
  have he : e ≤ 540 := by rcases h1 with z | z <;> omega
  have ec : v / 1024 = c := by omega
  have ee : v % 1024 = e := by omega
  have hall : ∀ (e' : Nat) (c' : Int), PC B t n a b e' c' → kd (B 6) e' = k → v / 1024 ≤ c' ∧ (v / 1024 = c' → v % 1024 ≤ e') := by
    intro e' c' hp hk'
    have he' : e' ≤ 540 := by rcases hp.2.1 with z | z <;> omega
    have := (h.le ⟨e', hp.2.1, hp.2.2.1.2, hk', c', hp.2.2.2.1, rfl⟩).1
    omega
  refine ⟨e, ⟨⟨hab, hbn⟩, h1, ⟨hl, h2⟩, by rw [ec]; exact h4, fun x hx => ?_⟩, by omega, h3, hall⟩
  have := (h.le ⟨e, h1, h2, h3, x, hx, rfl⟩).1
  omega
theorem VV_none {B : Nat → Nat → Int} {t : Nat → Int} {n a b k : Nat} (h : Lst (VV B t a b k) 2147483647 2147483647) {e : Nat} {c : Int} (hp : PC B t n a b e c) (hk : kd (B 6) e = k) : False := h.no _ ⟨e, hp.2.1, hp.2.2.1.2, hk, c, hp.2.2.2.1, rfl⟩
theorem PC_LT {B : Nat → Nat → Int} {t : Nat → Int} {n a b : Nat} {e c : Int} (h : PC B t n a b e c) : LT B n a b := h.2.2.1.1
set_option maxHeartbeats 2000000 in
theorem q_fillHeads {B : Nat → Nat → Int} {t : Nat → Int} (hB : GB B) (hW : GW B) {n : Nat} (hn : n ≤ 36) (hX : FXC B n) {fv vals : Nat → Int} (hF : FV B t n fv) (hV : ∀ b, 1 ≤ b → b ≤ n → COL B t (B 18 0).toNat b vals) {a : Nat} (ha : a < n) {heads rests : Nat → Int} (hR : RBc n (a + 1) rests) (hH : ∀ i, inI (heads i)) {x1 sl : Int} (e1 : x1 = a) (es : sl = n) :
    wp (m_X3_fillHeads x1 (B 6) fv heads rests sl (B 17) (B 19) vals) (fun u => (∀ k, k ≤ 8 → Lst (HS B t n a rests k) 268435456 (u (9 * a + k))) ∧ (∀ i, 9 * (a + 1) ≤ i → u i = heads i) ∧ ∀ i, inI (u i)) := by
  unfold m_X3_fillHeads
  refine wp_eq (q_fillRange (by omega) (by omega) (by omega) ⟨by decide, by omega⟩) ?_
  rw [show (x1 * 9).toNat = 9 * a by omega, show ((x1 + 1) * 9).toNat = 9 * (a + 1) by omega]
  have hI0 : ∀ i, inI (fz heads (9 * a) (9 * (a + 1)) 268435456 i) := fz_inI hH (by decide)
  have hout : ∀ i, 9 * (a + 1) ≤ i → fz heads (9 * a) (9 * (a + 1)) 268435456 i = heads i := fun i hi => fz_out _ _ (by omega)
  have hin : ∀ k, k ≤ 8 → fz heads (9 * a) (9 * (a + 1)) 268435456 (9 * a + k) = 268435456 := fun k hk => fz_in _ _ (by omega)
  refine wp_bind (q_partsAt hB hn (p := a) (by omega) e1 es) ?_
  intro r hr
  refine wp_gd (by omega) (wp_if (fun c1 => ?_) (fun c1 => ?_))
  · have hno : ¬ (a = 0 ∨ a = n ∨ B 17 a ≠ 2) := by
      rcases hr with ⟨z, _⟩ | ⟨_, z⟩
      · omega
      · exact z
    refine wp_some ⟨fun k hk => ?_, hout, hI0⟩
    rw [hin k hk]
    refine Lst.none ?_
    rintro x ⟨e, b, c, hp, _⟩
    rcases (PC_LT hp).1 with h | h
    · exact hno (Or.inl h)
    · exact hno (Or.inr (Or.inr h))
  · have hpa : a = 0 ∨ B 17 a ≠ 2 := by
      rcases hr with ⟨_, z⟩ | ⟨z, _⟩
      · rcases z with z | z | z
        · exact Or.inl z
        · omega
        · exact Or.inr z
      · omega
    refine wp_bind (q_reachFrom hB hn ha e1 es) ?_
    rintro v ⟨R, rfl, r1, r2, r3, r4⟩
    have hreach : ∀ b, a < b → b ≤ n → LT B n a b → b ≤ R := by
      intro b hab hbn hl
      by_cases h : b ≤ R
      · exact h
      · exfalso
        rcases r4 with r4 | r4
        · omega
        · exact hl.2.2 R r1 (by omega) r4
    refine wp_vl (wp_bind (P := fun u : Nat × Int × (Nat → Int) => HI B t n a rests heads (R + 1) 0 u.2.2) (wp_loop (fun j y => y.1 = ((a + 1 + j : Nat) : Int) ∧ HI B t n a rests heads (a + 1 + j) 0 y.2) (R - a) (by omega) ⟨by show x1 + 1 = _; omega, fun k hk => ?_, hout, hI0⟩ ?_) ?_)
    · show Lst _ 268435456 (fz heads (9 * a) (9 * (a + 1)) 268435456 (9 * a + k))
      rw [hin k hk]
      refine Lst.none ?_
      rintro x ⟨e, b, c, h0, hp, _⟩
      have := hp.1.1
      omega
    · intro j y hj hs
      obtain ⟨a1, a2⟩ := hs
      unfold m_X3_fillHeads_44
      refine wp_gd (by omega) (wp_gd (by omega) (wp_if (fun c2 => ?_) (fun c2 => ?_)))
      · refine wp_end (by decide) ?_
        show HI B t n a rests heads (R + 1) 0 y.2
        rw [show R + 1 = a + 1 + j by omega]
        exact a2
      · obtain ⟨b, eb⟩ : ∃ b, b = a + 1 + j := ⟨_, rfl⟩
        rw [← eb] at a1 a2
        have hbR : b ≤ R := by omega
        refine wp_bind (P := fun u : Nat × Int × (Nat → Int) => HI B t n a rests heads (b + 1) 0 u.2.2) (wp_loop (fun k d => d.1 = (k : Int) ∧ HI B t n a rests heads b k d.2) 9 (by omega) ⟨rfl, a2⟩ ?_) ?_
        · intro k d hk hsd
          obtain ⟨d1, d2⟩ := hsd
          unfold m_X3_fillHeads_52
          refine wp_gd (by omega) (wp_if (fun c3 => ?_) (fun c3 => ?_))
          · refine wp_end (by decide) (d2.same (fun k' hk' x => ?_))
            constructor
            · rintro ⟨e, b', c, h0, h1⟩
              exact ⟨e, b', c, by omega, h1⟩
            · rintro ⟨e, b', c, h0, h1⟩
              exact ⟨e, b', c, by omega, h1⟩
          · refine wp_bind (q_partsAt hB hn (p := b) (by omega) a1 es) ?_
            intro r5 hr5
            refine wp_gd (by omega) (wp_if (fun c4 => ?_) (fun c4 => ?_))
            · have hno : ¬ (b = 0 ∨ b = n ∨ B 17 b ≠ 2) := by
                rcases hr5 with ⟨z, _⟩ | ⟨_, z⟩
                · omega
                · exact z
              refine wp_end (by decide) (d2.same (fun k' hk' x => ?_))
              constructor
              · rintro ⟨e, b', c, h0, h1, h2⟩
                have hb : b' ≠ b := by
                  intro z
                  subst z
                  rcases (PC_LT h1).2.1 with h | h
                  · exact hno (Or.inr (Or.inl h))
                  · exact hno (Or.inr (Or.inr h))
                exact ⟨e, b', c, by omega, h1, h2⟩
              · rintro ⟨e, b', c, h0, h1, h2⟩
                have hb : b' ≠ b := by
                  intro z
                  subst z
                  rcases (PC_LT h1).2.1 with h | h
                  · exact hno (Or.inr (Or.inl h))
                  · exact hno (Or.inr (Or.inr h))
                exact ⟨e, b', c, by omega, h1, h2⟩
            · have hlt : LT B n a b := by
                refine ⟨hpa, ?_, fun p h1 h2 => r3 p h1 (by omega)⟩
                rcases hr5 with ⟨_, z⟩ | ⟨z, _⟩
                · rcases z with z | z | z
                  · omega
                  · exact Or.inl z
                  · exact Or.inr z
                · omega
              have hnext : (∀ x, ¬ ∃ (e : Nat) (c : Int), PC B t n a b e c ∧ kd (B 6) e = k ∧ rests (9 * b + k) < 268435456 ∧ x = c + rests (9 * b + k)) → HI B t n a rests heads b (k + 1) d.2 := by
                intro hno
                refine d2.same (fun k' hk' x => ?_)
                constructor
                · rintro ⟨e, b', c, h0, h1, h2, h3, h4⟩
                  refine ⟨e, b', c, ?_, h1, h2, h3, h4⟩
                  by_cases hz : b' = b ∧ k' = k
                  · obtain ⟨rfl, rfl⟩ := hz
                    exact absurd ⟨e, c, h1, h2, h3, h4⟩ (hno x)
                  · omega
                · rintro ⟨e, b', c, h0, h1⟩
                  exact ⟨e, b', c, by omega, h1⟩
              refine wp_bind (q_valueOf hB hW hn hX hF hV (a := a) (b := b) (k := k) (by omega) (by omega) (by omega) e1 a1 d1) ?_
              intro v hv
              have hvb : v = 2147483647 ∨ (-400000 ≤ v ∧ v ≤ 4000000) := by
                by_cases h : v = 2147483647
                · exact Or.inl h
                · exact Or.inr (VV_bd hB hW (hv.mem h))
              have er : (y.1 * 9 + d.1).toNat = 9 * b + k := by omega
              rw [er]
              have hrb := hR.1 b k (by omega) (by omega) (by omega)
              refine wp_gd (by omega) (wp_vl (wp_gd (by omega) (wp_if (fun c5 => ?_) (fun c5 => ?_))))
              · refine wp_vl (wp_go ⟨by omega, by show d.1 + 1 = _; omega, hnext ?_⟩)
                rintro x ⟨e, c, h1, h2, _⟩
                rw [c5] at hv
                exact VV_none hv h1 h2
              · refine wp_gd (hR.2 _) (wp_if (fun c6 => ?_) (fun c6 => ?_))
                · refine wp_vl (wp_go ⟨by omega, by show d.1 + 1 = _; omega, hnext ?_⟩)
                  rintro x ⟨e, c, h1, h2, h3, _⟩
                  omega
                · obtain ⟨e0, p1, p2, p3, p4⟩ := VV_least (n := n) (by omega) (by omega) hlt hv c5
                  have eh : (x1 * 9 + d.1).toNat = 9 * a + k := by omega
                  have hhI := d2.2.2 (9 * a + k)
                  refine wp_vl ?_
                  rw [eh]
                  refine wp_gd (by omega) (wp_gd hhI (wp_gd (by omega) (wp_gd (by omega) (wp_vl (wp_vl (wp_go ⟨by omega, by show d.1 + 1 = _; omega, fun k' hk' => ?_, fun i hi => ?_, uz_inI d2.2.2 (by omega)⟩))))))
                  · show Lst _ 268435456 (uz d.2 (9 * a + k) _ (9 * a + k'))
                    by_cases hkk : k' = k
                    · subst hkk
                      rw [uz_at]
                      refine Lst.dom ((d2.1 k' hk').push (S' := fun x => HSp B t n a rests b k' k' x ∨ x = v / 1024 + rests (9 * b + k')) (by omega) (fun x => Iff.rfl)) ?_ ?_
                      · rintro x (⟨e, b', c, h0, h1⟩ | rfl)
                        · exact ⟨e, b', c, by omega, h1⟩
                        · exact ⟨e0, b, v / 1024, by omega, p1, p3, by omega, rfl⟩
                      · rintro x ⟨e, b', c, h0, h1, h2, h3, h4⟩
                        by_cases hbb : b' = b
                        · subst hbb
                          have := (p4 e c h1 h2).1
                          exact ⟨v / 1024 + rests (9 * b' + k'), Or.inr rfl, by omega⟩
                        · exact ⟨x, Or.inl ⟨e, b', c, by omega, h1, h2, h3, h4⟩, Int.le_refl _⟩
                    · rw [uz_ne _ _ (by omega)]
                      refine (d2.1 k' hk').iff (fun x => ?_)
                      constructor
                      · rintro ⟨e, b', c, h0, h1⟩
                        exact ⟨e, b', c, by omega, h1⟩
                      · rintro ⟨e, b', c, h0, h1⟩
                        exact ⟨e, b', c, by omega, h1⟩
                  · show uz d.2 (9 * a + k) _ i = _
                    rw [uz_ne _ _ (by omega)]
                    exact d2.2.1 i hi
        · rintro ⟨t52, y4, hd⟩ hu
          refine wp_vl (wp_go ⟨by omega, by show y.1 + 1 = _; omega, ?_⟩)
          rw [show a + 1 + (j + 1) = b + 1 by omega]
          exact hu
    · rintro ⟨t44, y3, hd⟩ ⟨u1, u2, u3⟩
      refine wp_some ⟨fun k hk => ?_, u2, u3⟩
      refine (u1 k hk).iff (fun x => ?_)
      constructor
      · rintro ⟨e, b, c, h1, h2⟩
        have := hreach b h1.1.1 h1.1.2 (PC_LT h1)
        exact ⟨e, b, c, by omega, h1, h2⟩
      · rintro ⟨e, b, c, _, h1⟩
        exact ⟨e, b, c, h1⟩
