/-! the class's rests, whole -/
def SCo (B : Nat → Nat → Int) (sc : Nat → Int) : Prop := ∀ k j : Nat, k ≤ 8 → j ≤ 8 → sc (9 * k + j) = stp B k j
abbrev Rc (rests : Nat → Int) : Nat → Nat → Int := fun b k => rests (9 * b + k)
theorem HS_via {B : Nat → Nat → Int} {t : Nat → Int} (hW : GW B) {n a : Nat} {rests : Nat → Int} {k : Int} {x : Int} : (∃ e b, viaG B t n a (Rc rests) 268435456 k e b x) ↔ ∃ (j : Nat) (y : Int), j ≤ 8 ∧ HS B t n a rests j y ∧ x = y + stp B k j := by
  constructor
  · rintro ⟨e, b, c, h1, h2, h3⟩
    have hk := kd_bd hW h1.2.1
    have ek : (((kd (B 6) e).toNat : Nat) : Int) = kd (B 6) e := by omega
    refine ⟨(kd (B 6) e).toNat, c + rests (9 * b + (kd (B 6) e).toNat), by omega, ⟨e, b, c, h1, ek.symm, h2, rfl⟩, ?_⟩
    rw [ek]
    exact h3
  · rintro ⟨j, y, hj, ⟨e, b, c, h1, h2, h3, h4⟩, h5⟩
    refine ⟨e, b, c, h1, ?_, ?_⟩
    · show rests (9 * b + (kd (B 6) e).toNat) < 268435456
      rw [show (kd (B 6) e).toNat = j by omega]
      exact h3
    · show x = c + rests (9 * b + (kd (B 6) e).toNat) + stp B k (kd (B 6) e)
      rw [show (kd (B 6) e).toNat = j by omega, h2, h5, h4]
theorem HS_bd {B : Nat → Nat → Int} {t : Nat → Int} (hB : GB B) (hW : GW B) {n a : Nat} {rests : Nat → Int} (hR : RBc n (a + 1) rests) {k : Nat} (hk : k ≤ 8) {x : Int} (h : HS B t n a rests k x) : -(4000 * ((n : Int) - a)) + 3000 ≤ x ∧ x ≤ 4000 * ((n : Int) - a) - 1000 := by
  obtain ⟨e, b, c, h1, h2, h3, h4⟩ := h
  have := CL_bd hB hW h1.2.1 h1.2.2.2.1
  have h5 := h1.1
  have := hR.1 b k (by omega) (by omega) hk
  omega
set_option maxHeartbeats 1000000 in
theorem q_fillRests {B : Nat → Nat → Int} {t : Nat → Int} (hB : GB B) (hW : GW B) (hS : GS B) {n a : Nat} (hn : n ≤ 36) (ha : a < n) {heads rests sc : Nat → Int} (hsc : SCo B sc) (hR : RBc n (a + 1) rests) (hH : ∀ i, inI (heads i)) (hL : ∀ k, k ≤ 8 → Lst (HS B t n a rests k) 268435456 (heads (9 * a + k))) {x1 : Int} (e1 : x1 = a) :
    wp (m_X3_fillRests x1 sc heads rests) (fun u => (∀ k : Nat, k ≤ 8 → Lst (fun x => ∃ e b, viaG B t n a (Rc rests) 268435456 k e b x) 268435456 (u (9 * a + k))) ∧ (∀ i, (i < 9 * a ∨ 9 * (a + 1) ≤ i) → u i = rests i) ∧ RBc n a u) := by
  have hhd : ∀ k, k ≤ 8 → heads (9 * a + k) < 268435456 → -(4000 * ((n : Int) - a)) + 3000 ≤ heads (9 * a + k) ∧ heads (9 * a + k) ≤ 4000 * ((n : Int) - a) - 1000 := fun k hk h => HS_bd hB hW hR hk ((hL k hk).mem (by omega))
  have hone : ∀ (k : Nat) (x2 : Int), k ≤ 8 → x2 = k → ∀ rr : Nat → Int, wp (zloop (fun y => m_X3_fillRests_14 x1 x2 y.1 y.2 sc heads rr) FU (268435456, 0)) (fun u => Lst (fun x => ∃ e b, viaG B t n a (Rc rests) 268435456 k e b x) 268435456 u.2.1 ∧ (u.2.1 = 268435456 ∨ (-(4000 * ((n : Int) - a)) ≤ u.2.1 ∧ u.2.1 ≤ 4000 * ((n : Int) - a)))) := by
    intro k x2 hk e2 rr
    refine wp_loop (fun j y => y.2 = (j : Int) ∧ Lst (fun x => ∃ (j' : Nat), j' < j ∧ heads (9 * a + j') < 268435456 ∧ x = heads (9 * a + j') + stp B k j') 268435456 y.1 ∧ (y.1 = 268435456 ∨ (-(4000 * ((n : Int) - a)) ≤ y.1 ∧ y.1 ≤ 4000 * ((n : Int) - a)))) 9 (by omega) ⟨rfl, Lst.none (fun x ⟨j', h, _⟩ => absurd h (by omega)), Or.inl rfl⟩ ?_
    intro j y hj hs
    obtain ⟨a1, a2, a3⟩ := hs
    unfold m_X3_fillRests_14
    refine wp_gd (by omega) (wp_if (fun c1 => ?_) (fun c1 => ?_))
    · refine wp_end (by decide) ⟨?_, a3⟩
      refine a2.dom ?_ ?_
      · rintro x ⟨j', h1, h2, h3⟩
        exact (HS_via hW).mpr ⟨j', _, by omega, (hL j' (by omega)).mem (by omega), h3⟩
      · rintro x hx
        obtain ⟨j', z, h1, h2, h3⟩ := (HS_via hW).mp hx
        have h4 := (hL j' h1).le h2
        exact ⟨heads (9 * a + j') + stp B k j', ⟨j', by omega, h4.2, rfl⟩, by omega⟩
    · have eh : (x1 * 9 + y.2).toNat = 9 * a + j := by omega
      rw [eh]
      refine wp_gd (by omega) (wp_vl (wp_gd (hH _) (wp_if (fun c2 => ?_) (fun c2 => ?_))))
      · refine wp_vl (wp_go ⟨by omega, by show y.2 + 1 = _; omega, a2.iff (fun x => ?_), a3⟩)
        constructor
        · rintro ⟨j', h1, h2, h3⟩
          have : j' ≠ j := fun z => by rw [z] at h2; omega
          exact ⟨j', by omega, h2, h3⟩
        · rintro ⟨j', h1, h2⟩
          exact ⟨j', by omega, h2⟩
      · have et : (x2 * 9 + y.2).toNat = 9 * k + j := by omega
        have hst := stp_bd hS (k := (k : Int)) (j := (j : Int)) (by omega) (by omega)
        have hh := hhd j (by omega) (by omega)
        rw [et, hsc k j hk (by omega)]
        refine wp_gd (by omega) (wp_gd (by omega) (wp_gd (by omega) (wp_vl (wp_vl (wp_go ⟨by omega, by show y.2 + 1 = _; omega, ?_, ?_⟩)))))
        · refine a2.push (by omega) (fun x => ?_)
          constructor
          · rintro ⟨j', h1, h2, h3⟩
            by_cases hjj : j' = j
            · subst hjj
              exact Or.inr h3
            · exact Or.inl ⟨j', by omega, h2, h3⟩
          · rintro (⟨j', h1, h2⟩ | rfl)
            · exact ⟨j', by omega, h2⟩
            · exact ⟨j, by omega, by omega, rfl⟩
        · show min y.1 (heads (9 * a + j) + stp B k j) = 268435456 ∨ (-(4000 * ((n : Int) - a)) ≤ min y.1 (heads (9 * a + j) + stp B k j) ∧ min y.1 (heads (9 * a + j) + stp B k j) ≤ 4000 * ((n : Int) - a))
          omega
  unfold m_X3_fillRests
  refine wp_bind (P := fun u : Nat × Int × (Nat → Int) => (∀ k : Nat, k ≤ 8 → Lst (fun x => ∃ e b, viaG B t n a (Rc rests) 268435456 k e b x) 268435456 (u.2.2 (9 * a + k))) ∧ (∀ i, (i < 9 * a ∨ 9 * (a + 1) ≤ i) → u.2.2 i = rests i) ∧ RBc n a u.2.2) (wp_loop (fun k y => y.1 = (k : Int) ∧ (∀ k' : Nat, k' < k → k' ≤ 8 → Lst (fun x => ∃ e b, viaG B t n a (Rc rests) 268435456 k' e b x) 268435456 (y.2 (9 * a + k')) ∧ (y.2 (9 * a + k') = 268435456 ∨ (-(4000 * ((n : Int) - a)) ≤ y.2 (9 * a + k') ∧ y.2 (9 * a + k') ≤ 4000 * ((n : Int) - a)))) ∧ (∀ i, (i < 9 * a ∨ 9 * (a + 1) ≤ i) → y.2 i = rests i) ∧ ∀ i, inI (y.2 i)) 9 (by omega) ⟨rfl, fun k' h => absurd h (by omega), fun i _ => rfl, hR.2⟩ ?_) ?_
  · intro k y hk hs
    obtain ⟨a1, a2, a3, a4⟩ := hs
    unfold m_X3_fillRests_2
    refine wp_gd (by omega) (wp_if (fun c1 => ?_) (fun c1 => ?_))
    · refine wp_end (by decide) ⟨fun k' hk' => (a2 k' (by omega) hk').1, a3, fun b k' h1 h2 h3 => ?_, a4⟩
      by_cases hb : b = a
      · subst hb
        exact (a2 k' (by omega) h3).2
      · show y.2 (9 * b + k') = 268435456 ∨ _
        rw [a3 _ (by omega)]
        exact hR.1 b k' (by omega) h2 h3
    · refine wp_bind (hone k y.1 (by omega) a1 y.2) ?_
      rintro ⟨t14, y3, y4⟩ ⟨u1, u2⟩
      have u1 : Lst (fun x => ∃ e b, viaG B t n a (Rc rests) 268435456 k e b x) 268435456 y3 := u1
      have u2 : y3 = 268435456 ∨ (-(4000 * ((n : Int) - a)) ≤ y3 ∧ y3 ≤ 4000 * ((n : Int) - a)) := u2
      have eh : (x1 * 9 + y.1).toNat = 9 * a + k := by omega
      rw [eh]
      refine wp_gd (by omega) (wp_vl (wp_vl (wp_go ⟨by omega, by show y.1 + 1 = _; omega, fun k' h1 h2 => ?_, fun i hi => ?_, uz_inI a4 (by omega)⟩)))
      · show Lst _ 268435456 (uz y.2 (9 * a + k) y3 (9 * a + k')) ∧ (uz y.2 (9 * a + k) y3 (9 * a + k') = 268435456 ∨ (-(4000 * ((n : Int) - a)) ≤ uz y.2 (9 * a + k) y3 (9 * a + k') ∧ uz y.2 (9 * a + k) y3 (9 * a + k') ≤ 4000 * ((n : Int) - a)))
        by_cases hkk : k' = k
        · subst hkk
          rw [uz_at]
          exact ⟨u1, u2⟩
        · rw [uz_ne _ _ (by omega)]
          exact a2 k' (by omega) h2
      · show uz y.2 (9 * a + k) y3 i = _
        rw [uz_ne _ _ (by omega)]
        exact a3 i hi
  · rintro ⟨t2, y2, rr⟩ hu
    exact wp_some hu
/-- the class's rests from lo on are right -/
def BRc (B : Nat → Nat → Int) (t : Nat → Int) (n lo : Nat) (rests : Nat → Int) : Prop := (∀ k : Nat, k ≤ 8 → rests (9 * n + k) = 0) ∧ RBc n lo rests ∧ ∀ a : Nat, lo ≤ a → a < n → ∀ k : Nat, k ≤ 8 → Lst (fun x => ∃ e b, viaG B t n a (Rc rests) 268435456 k e b x) 268435456 (rests (9 * a + k))
theorem viaG_congr {B : Nat → Nat → Int} {t : Nat → Int} {n a : Nat} {R R' : Nat → Nat → Int} {far far' : Int} (hW : GW B) (h : ∀ b k : Nat, a < b → b ≤ n → k ≤ 8 → ((R b k = far ∧ R' b k = far') ∨ (R b k = R' b k ∧ R b k < far ∧ R' b k < far'))) {k : Int} {e b : Nat} {x : Int} : viaG B t n a R far k e b x ↔ viaG B t n a R' far' k e b x := by
  constructor
  · rintro ⟨c, h1, h2, h3⟩
    have hk := kd_bd hW h1.2.1
    rcases h b (kd (B 6) e).toNat h1.1.1 h1.1.2 (by omega) with ⟨z, _⟩ | ⟨z1, z2, z3⟩
    · omega
    · exact ⟨c, h1, z3, by rw [← z1]; exact h3⟩
  · rintro ⟨c, h1, h2, h3⟩
    have hk := kd_bd hW h1.2.1
    rcases h b (kd (B 6) e).toNat h1.1.1 h1.1.2 (by omega) with ⟨_, z⟩ | ⟨z1, z2, z3⟩
    · omega
    · exact ⟨c, h1, z2, by rw [z1]; exact h3⟩
/-- the class's rests and the reference's are the same -/
theorem rests_agree {B : Nat → Nat → Int} {t : Nat → Int} (hW : GW B) {n : Nat} {rests rest : Nat → Int} (h1 : BRc B t n 0 rests) (h2 : BR B t n 0 rest) : ∀ m a : Nat, a + m = n → ∀ k : Nat, k ≤ 8 → (rests (9 * a + k) = 268435456 ∧ rest (10 * a + k) = 134217728) ∨ (rests (9 * a + k) = rest (10 * a + k) ∧ rests (9 * a + k) < 268435456 ∧ rest (10 * a + k) < 134217728) := by
  intro m
  induction m using Nat.strongRecOn with
  | ind m ih =>
    intro a ham k hk
    by_cases hz : m = 0
    · have ha : a = n := by omega
      subst ha
      right
      rw [h1.1 k hk, h2.1 k (by omega)]
      decide
    · have hl1 := h1.2.2 a (Nat.zero_le _) (by omega) k hk
      have hl2 := h2.2.2 a (Nat.zero_le _) (by omega) k (by omega)
      have hl3 : Lst (fun x => ∃ e b, viaG B t n a (Rc rests) 268435456 k e b x) 134217728 (rest (10 * a + k)) := by
        refine hl2.iff (fun x => ?_)
        have key : ∀ b k' : Nat, a < b → b ≤ n → k' ≤ 8 → ((Rc rests b k' = 268435456 ∧ rest (10 * b + k') = 134217728) ∨ (Rc rests b k' = rest (10 * b + k') ∧ Rc rests b k' < 268435456 ∧ rest (10 * b + k') < 134217728)) := fun b k' g1 g2 g3 => ih (n - b) (by omega) b (by omega) k' g3
        constructor
        · rintro ⟨e, b, h⟩
          exact ⟨e, b, (viaG_congr (R' := fun b k => rest (10 * b + k)) hW key).mp h⟩
        · rintro ⟨e, b, h⟩
          exact ⟨e, b, (viaG_congr (R' := fun b k => rest (10 * b + k)) hW key).mpr h⟩
      rcases hl1.two hl3 with h | ⟨g1, g2, g3, _⟩
      · exact Or.inl h
      · exact Or.inr ⟨g1, g2, g3⟩
