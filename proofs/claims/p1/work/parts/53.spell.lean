/-! spellings at a place; walks over sounds -/
def mis (t : Nat → Int) (row : Int) (p : Nat) : Nat → Nat
  | 0 => 0
  | k + 1 => mis t row p k + (if pz 5 row k = t (p + k) then 0 else 1)
theorem mis_mono (t : Nat → Int) (row : Int) (p : Nat) {j k : Nat} (h : j ≤ k) : mis t row p j ≤ mis t row p k := by
  induction h with
  | refl => exact Nat.le_refl _
  | step _ ih => exact Nat.le_trans ih (Nat.le_add_right _ _)
def prc (B : Nat → Nat → Int) (t : Nat → Int) (i p : Nat) : Int := B 3 i + (mis t (B 1 i) p (B 2 i).toNat : Int) * B 13 0
def fit (B : Nat → Nat → Int) (t : Nat → Int) (i p : Nat) : Prop := mis t (B 1 i) p (B 2 i).toNat ≤ 1
/-- the book's numbers are in their ranges -/
def GB (B : Nat → Nat → Int) : Prop :=
  (∀ k i, k ≠ 4 → k ≠ 5 → k ≠ 9 → inI (B k i)) ∧ (∀ s, s < 50 → 0 ≤ B 0 s ∧ B 0 s ≤ 3) ∧ (∀ i, i < 150 → 0 ≤ B 2 i ∧ B 2 i ≤ 4 ∧ 0 ≤ B 3 i ∧ B 3 i ≤ 40) ∧
  (∀ s j : Nat, s < 50 → (j : Int) < B 0 s → ∃ n : Nat, isR 5 4 26 (B 1 (3 * s + j)) n ∧ B 2 (3 * s + j) = n) ∧ (∀ i, i < 3 → 0 ≤ B 13 i ∧ B 13 i ≤ 200)
theorem pz5 (r : Int) (k : Nat) : r / 2 ^ (5 * k) % 32 = pz 5 r k := rfl
set_option maxHeartbeats 1000000 in
theorem q_priceAt {B : Nat → Nat → Int} {t : Nat → Int} (hB : GB B) (ht : ∀ k, inI (t k)) {i p : Nat} (hi : i < 150) (hp : p + (B 2 i).toNat ≤ 36) {x1 x2 : Int} (e1 : x1 = i) (e2 : x2 = p) : wp (m_X6_priceAt x1 x2 (B 1) (B 2) (B 3) (B 13) t) (fun v => (fit B t i p ∧ v = prc B t i p) ∨ (¬ fit B t i p ∧ v = 268435456)) := by
  obtain ⟨hI, _, h2, _, h13⟩ := hB
  obtain ⟨l0, l1, p0, p1⟩ := h2 i hi
  have ex1 : x1.toNat = i := by omega
  unfold m_X6_priceAt
  rw [ex1]
  refine wp_gd (by omega) (wp_vl (wp_gd (by omega) (wp_vl ?_)))
  refine wp_bind (P := fun u : Nat × Int × Int => (u.2.1 ≤ 1 ∧ fit B t i p ∧ u.2.1 = (mis t (B 1 i) p (B 2 i).toNat : Int)) ∨ (1 < u.2.1 ∧ ¬ fit B t i p ∧ u.2.1 < 100)) (wp_loop (fun k a => a.2 = (k : Int) ∧ a.1 = (mis t (B 1 i) p k : Int) ∧ mis t (B 1 i) p k ≤ k) (B 2 i).toNat (by omega) ⟨rfl, rfl, Nat.le_refl _⟩ ?_) ?_
  · intro k a hk hs
    obtain ⟨e3, e4, hle⟩ := hs
    unfold m_X6_priceAt_27
    refine wp_gd (by omega) (wp_gd (by omega) (wp_if (fun c1 => ?_) (fun c1 => ?_)))
    · have hkl : k = (B 2 i).toNat := by omega
      refine wp_end (by decide) ?_
      show (a.1 ≤ 1 ∧ fit B t i p ∧ a.1 = _) ∨ _
      rw [e4, hkl]
      by_cases hf : fit B t i p
      · refine Or.inl ⟨?_, hf, rfl⟩
        unfold fit at hf
        omega
      · refine Or.inr ⟨?_, hf, ?_⟩
        · unfold fit at hf
          show (1 : Int) < (mis t (B 1 i) p (B 2 i).toNat : Int)
          omega
        · show (mis t (B 1 i) p (B 2 i).toNat : Int) < 100
          rw [← hkl]
          omega
    · refine wp_gd (by omega) (wp_if (fun c2 => ?_) (fun c2 => ?_))
      · refine wp_end (by decide) (Or.inr ⟨c2, ?_, by show a.1 < 100; omega⟩)
        intro hf
        unfold fit at hf
        have := mis_mono t (B 1 i) p hk
        omega
      · have e5 : (a.2 * 5).toNat = 5 * k := by omega
        have e6 : (x2 + a.2).toNat = p + k := by omega
        rw [e5, e6, pz5]
        have h5 := pz_nonneg 5 (B 1 i) k
        have h6 := pz_lt 5 (B 1 i) k
        have h7 : (2 : Int) ^ 5 = 32 := by decide
        refine wp_gd (hI 1 i (by decide) (by decide) (by decide)) (wp_gd (by omega) (wp_gd (by omega) (wp_gd (by omega) (wp_gd (ht _) (wp_if (fun c3 => ?_) (fun c3 => ?_))))))
        · refine wp_vl (wp_go ⟨by omega, by show a.2 + 1 = _; omega, ?_, ?_⟩)
          · show a.1 = ((mis t (B 1 i) p k + (if pz 5 (B 1 i) k = t (p + k) then 0 else 1) : Nat) : Int)
            rw [if_pos c3]
            omega
          · show mis t (B 1 i) p k + (if pz 5 (B 1 i) k = t (p + k) then 0 else 1) ≤ k + 1
            rw [if_pos c3]
            omega
        · refine wp_vl (wp_vl (wp_go ⟨by omega, by show a.2 + 1 = _; omega, ?_, ?_⟩))
          · show a.1 + 1 = ((mis t (B 1 i) p k + (if pz 5 (B 1 i) k = t (p + k) then 0 else 1) : Nat) : Int)
            rw [if_neg c3]
            omega
          · show mis t (B 1 i) p k + (if pz 5 (B 1 i) k = t (p + k) then 0 else 1) ≤ k + 1
            rw [if_neg c3]
            omega
  · rintro ⟨t9, x5, x6⟩ hu
    have hu : (x5 ≤ 1 ∧ fit B t i p ∧ x5 = (mis t (B 1 i) p (B 2 i).toNat : Int)) ∨ (1 < x5 ∧ ¬ fit B t i p ∧ x5 < 100) := hu
    show wp (m_X6_priceAt_73 x1 x5 (B 1) (B 2) (B 3) (B 13) t) _
    unfold m_X6_priceAt_73
    rcases hu with ⟨g1, g2, g3⟩ | ⟨g1, g2, g3⟩
    · refine wp_gd (by omega) (wp_if (fun c => ?_) (fun c => absurd g1 c))
      rw [ex1]
      refine wp_gd (by omega) (wp_some (Or.inl ⟨g2, ?_⟩))
      rw [g3]
      rfl
    · exact wp_gd (by omega) (wp_if (fun c => absurd c (by omega)) (fun c => wp_some (Or.inr ⟨g2, rfl⟩)))
theorem prc_bd {B : Nat → Nat → Int} {t : Nat → Int} (hB : GB B) {i p : Nat} (hi : i < 150) (hf : fit B t i p) : 0 ≤ prc B t i p ∧ prc B t i p ≤ 240 := by
  obtain ⟨_, _, h2, _, h13⟩ := hB
  obtain ⟨_, _, p0, p1⟩ := h2 i hi
  obtain ⟨s0, s1⟩ := h13 0 (by decide)
  unfold fit at hf
  unfold prc
  rcases (show mis t (B 1 i) p (B 2 i).toNat = 0 ∨ mis t (B 1 i) p (B 2 i).toNat = 1 by omega) with h | h <;> rw [h] <;> omega
/-- a stretch spelt by a row of sounds, at a cost -/
def spR (B : Nat → Nat → Int) (t : Nat → Int) : List Nat → Nat → Nat → Int → Prop
  | [], a, b, x => a = b ∧ x = 0
  | s :: ss, a, b, x => ∃ (j : Nat) (y : Int), (j : Int) < B 0 s ∧ fit B t (3 * s + j) a ∧ spR B t ss (a + (B 2 (3 * s + j)).toNat) b y ∧ x = prc B t (3 * s + j) a + y
/-- .. and what stands behind it -/
def wkS (B : Nat → Nat → Int) (t : Nat → Int) (Z : Nat → Int → Prop) (ss : List Nat) (p : Nat) (x : Int) : Prop := ∃ (q : Nat) (y z : Int), spR B t ss p q y ∧ Z q z ∧ x = 16 * y + z
theorem wkS_cons {B : Nat → Nat → Int} {t : Nat → Int} {Z : Nat → Int → Prop} {s : Nat} {ss : List Nat} {p : Nat} {x : Int} : wkS B t Z (s :: ss) p x ↔ ∃ (j : Nat) (y : Int), (j : Int) < B 0 s ∧ fit B t (3 * s + j) p ∧ wkS B t Z ss (p + (B 2 (3 * s + j)).toNat) y ∧ x = 16 * prc B t (3 * s + j) p + y := by
  constructor
  · rintro ⟨q, y, z, ⟨j, y2, h1, h2, h3, rfl⟩, h4, rfl⟩
    exact ⟨j, 16 * y2 + z, h1, h2, ⟨q, y2, z, h3, h4, rfl⟩, by omega⟩
  · rintro ⟨j, y, h1, h2, ⟨q, y2, z, h3, h4, rfl⟩, rfl⟩
    exact ⟨q, prc B t (3 * s + j) p + y2, z, ⟨j, y2, h1, h2, h3, rfl⟩, h4, by omega⟩
theorem spR_bd {B : Nat → Nat → Int} {t : Nat → Int} (hB : GB B) : ∀ (ss : List Nat), (∀ s ∈ ss, s < 50) → ∀ (a b : Nat) (x : Int), spR B t ss a b x → 0 ≤ x ∧ x ≤ 240 * (ss.length : Int) ∧ a ≤ b := by
  intro ss
  induction ss with
  | nil =>
    rintro _ a b x ⟨h1, h2⟩
    refine ⟨by omega, ?_, by omega⟩
    rw [h2]
    simp
  | cons s ss ih =>
    rintro hs a b x ⟨j, y, h1, h2, h3, rfl⟩
    obtain ⟨g1, g2, g3⟩ := ih (fun s' h => hs s' (List.mem_cons_of_mem _ h)) _ _ _ h3
    have hs50 := hs s List.mem_cons_self
    have h0 := hB.2.1 s hs50
    have hp := prc_bd (i := 3 * s + j) (p := a) hB (by omega) h2
    refine ⟨by omega, ?_, by omega⟩
    rw [List.length_cons]
    push_cast
    omega
/-- the value that a walk knows of a place -/
def vw (now : Nat → Int) (low high : Int) (p : Nat) : Int := if low ≤ (p : Int) ∧ (p : Int) ≤ high then now p else 268435456
def WO (B : Nat → Nat → Int) (t : Nat → Int) (Z : Nat → Int → Prop) (ss : List Nat) (now : Nat → Int) (low high : Int) : Prop := ∀ p : Nat, p ≤ 36 → Lst (wkS B t Z ss p) 268435456 (vw now low high p)
theorem wkS_bd {B : Nat → Nat → Int} {t : Nat → Int} {Z : Nat → Int → Prop} (hB : GB B) (hZ : ∀ q z, Z q z → 0 ≤ z ∧ z < 20000 ∧ q ≤ 36) {ss : List Nat} (hs : ∀ s ∈ ss, s < 50) (hl : ss.length ≤ 9) {p : Nat} {x : Int} (h : wkS B t Z ss p x) : 0 ≤ x ∧ x < 60000 ∧ p ≤ 36 := by
  obtain ⟨q, y, z, h1, h2, rfl⟩ := h
  have := spR_bd hB ss hs _ _ _ h1
  have := hZ q z h2
  omega
