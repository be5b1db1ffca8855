/-! the reference: cost, kind, step, what is let and allowed -/
def stp (B : Nat → Nat → Int) (k j : Int) : Int := if k = 9 then 0 else B 14 (9 * k + j).toNat - 2 * (bl (B 15 (9 * k + j).toNat) : Int)
/-- a stretch that the breaks let be a part -/
def LT (B : Nat → Nat → Int) (n a b : Nat) : Prop := (a = 0 ∨ B 17 a ≠ 2) ∧ (b = n ∨ B 17 b ≠ 2) ∧ ∀ p, a < p → p < b → B 17 p ≠ 1
/-- a part that the hand allows -/
def AL (B : Nat → Nat → Int) (n a b : Nat) (e : Int) : Prop := LT B n a b ∧ (B 19 a = 0 ∨ B 19 a = 1024 * (b : Int) + e)
theorem CL_of {B : Nat → Nat → Int} {t : Nat → Int} {e : Int} (hn : e ≠ 540) {a b : Nat} (x : Int) : CL B t e a b x ↔ ∃ y, spR B t (sds B e) a b y ∧ x = wct B (e / 9).toNat + epr B e + y := by
  unfold CL
  rw [if_neg hn]
set_option maxHeartbeats 1000000 in
theorem q_rcost {B : Nat → Nat → Int} {t : Nat → Int} (hB : GB B) (hW : GW B) {n : Nat} (hn : n ≤ 36) {tb : Nat → Int} (hT : TBL B t n (540 * n) tb) {a b : Nat} (hab : a < b) (hbn : b ≤ n) {w e : Int} (hw : (0 ≤ w ∧ w < B 18 0) ∨ w = 60) (he : -1 ≤ e ∧ e < B 18 1) (hwe : w = 60 → e = -1) {x1 x2 gu ba : Int} (e1 : x1 = a) (e2 : x2 = b) (eg : gu = B 13 1) (eb : ba = B 13 2) :
    wp (m_X9_costOf x1 x2 w e (B 7) (B 8) (B 11) (B 12) gu ba tb) (fun v => (EV B (9 * w + e + 1) → Lst (CL B t (9 * w + e + 1) a b) 134217728 v) ∧ (¬ EV B (9 * w + e + 1) → v = 134217728)) := by
  have hW0 := hW.1
  have hE0 := hW.2.1
  have hpr := hB.2.2.2.2 1 (by decide)
  unfold m_X9_costOf
  refine wp_gd (by omega) (wp_if (fun c1 => ?_) (fun c1 => ?_))
  · have e9 : 9 * w + e + 1 = 540 := by have := hwe c1; omega
    rw [e9]
    have hev : EV B 540 := Or.inl rfl
    have hCL : ∀ x, CL B t 540 a b x ↔ (b = a + 1 ∧ x = B 13 1) := by
      intro x
      unfold CL
      rw [if_pos rfl]
    refine wp_gd (by omega) (wp_gd (by omega) (wp_if (fun c2 => ?_) (fun c2 => ?_)))
    · refine wp_gd (by omega) (wp_if (fun c3 => ?_) (fun c3 => absurd (hwe c1) c3))
      refine wp_some ⟨fun _ => Or.inr ⟨by omega, (hCL _).mpr ⟨by omega, eg⟩, fun x hx => ?_⟩, fun z => absurd hev z⟩
      have := ((hCL x).mp hx).2
      omega
    · refine wp_some ⟨fun _ => Lst.none (fun x hx => ?_), fun z => absurd hev z⟩
      have := ((hCL x).mp hx).1
      omega
  · have hw' : 0 ≤ w ∧ w < B 18 0 := by
      rcases hw with h | h
      · exact h
      · exact absurd h c1
    obtain ⟨W, eW⟩ : ∃ W : Nat, w = W := ⟨w.toNat, by omega⟩
    obtain ⟨M, eM⟩ : ∃ M : Nat, e + 1 = M := ⟨(e + 1).toNat, by omega⟩
    have eent : 9 * w + e + 1 = ((9 * W + M : Nat) : Int) := by omega
    have hne : (9 * w + e + 1) ≠ 540 := by omega
    have hdiv : ((9 * w + e + 1) / 9).toNat = W := by omega
    have main : EV B (9 * w + e + 1) → wp (m_X9_costOf_54 x1 x2 w e (B 7) (B 8) (B 11) (B 12) gu ba tb) (fun v => (EV B (9 * w + e + 1) → Lst (CL B t (9 * w + e + 1) a b) 134217728 v) ∧ (¬ EV B (9 * w + e + 1) → v = 134217728)) := by
      intro hev
      have hTO := hT.1 a (9 * W + M) (by omega) (by omega) (by omega) (by rw [← eent]; exact hev)
      obtain ⟨g1, g2, _, _, g5, g6⟩ := sds_ok hW hev hne
      have hL : Lst (spR B t (sds B ((9 * W + M : Nat) : Int)) a (a + (b - a))) 134217728 (tb (37 * (540 * a + (9 * W + M)) + (b - a))) := (hTO (b - a) (by omega)).1 (by omega)
      rw [show a + (b - a) = b by omega, ← eent] at hL
      unfold m_X9_costOf_54
      refine wp_eq (q_cell _ _ _) ?_
      have ei : ((((x1 * 60 + w) * 9 + e) + 1) * 37 + x2 - x1).toNat = 37 * (540 * a + (9 * W + M)) + (b - a) := by omega
      have ew : w.toNat = W := by omega
      rw [ei, ew]
      refine wp_gd (by omega) (wp_vl (wp_gd (hT.2 _) (wp_if (fun c2 => ?_) (fun c2 => ?_))))
      · have hmem := hL.mem (by omega)
        have hbd := spR_bd hB _ g1 _ _ _ hmem
        have hc8 : inI (B 8 W) := hB.1 8 _ (by decide) (by decide) (by decide)
        have hcl := (CL_of (B := B) (t := t) hne (a := a) (b := b) _).mpr ⟨_, hmem, rfl⟩
        have hcb := CL_bd hB hW hev hcl
        have hfin : Lst (CL B t (9 * w + e + 1) a b) 134217728 (wct B ((9 * w + e + 1) / 9).toNat + epr B (9 * w + e + 1) + tb (37 * (540 * a + (9 * W + M)) + (b - a))) := by
          refine Or.inr ⟨by omega, hcl, fun x hx => ?_⟩
          obtain ⟨y, h1, h2⟩ := (CL_of hne x).mp hx
          have := (hL.le h1).1
          omega
        refine wp_gd (by omega) (wp_eq (q_bitsOf hc8) (wp_gd (by omega) (wp_if (fun c3 => ?_) (fun c3 => ?_))))
        · refine wp_some ⟨fun _ => ?_, fun z => absurd hev z⟩
          have ep : epr B (9 * w + e + 1) = 0 := by unfold epr; rw [if_pos (by omega)]
          rw [ep, hdiv] at hfin
          unfold wct at hfin
          rw [eb]
          exact hfin
        · have ee : (9 * w + e + 1) % 9 ≠ 0 := by omega
          have ep : epr B (9 * w + e + 1) = B 12 e.toNat := by unfold epr; rw [if_neg ee, show ((9 * w + e + 1) % 9 - 1).toNat = e.toNat by omega]
          refine wp_gd (by omega) (wp_some ⟨fun _ => ?_, fun z => absurd hev z⟩)
          rw [ep, hdiv] at hfin
          unfold wct at hfin
          rw [eb]
          exact hfin
      · refine wp_some ⟨fun _ => Lst.none (fun x hx => ?_), fun z => absurd hev z⟩
        obtain ⟨y, h1, h2⟩ := (CL_of hne x).mp hx
        have := (hL.le h1).2
        exact c2 this
    refine wp_gd (by omega) (wp_if (fun c2 => ?_) (fun c2 => ?_))
    · exact main (Or.inr ⟨by omega, by omega, by omega, Or.inl (by omega)⟩)
    · have ew : w.toNat = W := by omega
      have h11 : inI (B 11 e.toNat) := hB.1 11 _ (by decide) (by decide) (by decide)
      have h7 : inI (B 7 w.toNat) := hB.1 7 _ (by decide) (by decide) (by decide)
      have q1 : ((9 * w + e + 1) % 9 - 1).toNat = e.toNat := by omega
      have q2 : ((9 * w + e + 1) / 9).toNat = w.toNat := by omega
      refine wp_gd (by omega) (wp_gd (by omega) (wp_gd h11 (wp_gd h7 (wp_if (fun c3 => ?_) (fun c3 => ?_)))))
      · exact main (Or.inr ⟨by omega, by omega, by omega, Or.inr ⟨by omega, by rw [q1, q2]; exact c3⟩⟩)
      · have hno : ¬ EV B (9 * w + e + 1) := by
          rintro (z | ⟨_, _, _, z⟩)
          · exact hne z
          · rcases z with z | ⟨_, z⟩
            · omega
            · rw [q1, q2] at z
              exact c3 z
        exact wp_some ⟨fun z => absurd z hno, fun _ => rfl⟩
theorem q_rkind {K : Nat → Int} {w e : Int} (hw : 0 ≤ w ∧ w ≤ 60) (he : -1 ≤ e ∧ e < 8) (hwe : w = 60 → e = -1) : m_X9_kindOf w K = some (kd K (9 * w + e + 1)) := by
  refine wp_out ?_
  unfold m_X9_kindOf kd
  refine wp_gd (by omega) (wp_if (fun c1 => ?_) (fun c1 => ?_))
  · have := hwe c1
    refine wp_some ?_
    rw [if_pos (by omega)]
  · refine wp_gd (by omega) (wp_some ?_)
    rw [if_neg (by omega), show ((9 * w + e + 1) / 9).toNat = w.toNat by omega]
theorem q_stepOf {B : Nat → Nat → Int} (hB : GB B) {k j : Int} (hk : 0 ≤ k ∧ k ≤ 9) (hj : 0 ≤ j ∧ j ≤ 8) : m_X9_stepOf k j (B 14) (B 15) = some (stp B k j) := by
  refine wp_out ?_
  unfold m_X9_stepOf stp
  refine wp_gd (by omega) (wp_if (fun c1 => ?_) (fun c1 => ?_))
  · refine wp_some ?_
    rw [if_pos c1]
  · refine wp_gd (by omega) (wp_gd (by omega) (wp_eq (q_bitsOf (hB.1 15 _ (by decide) (by decide) (by decide))) (wp_some ?_)))
    rw [if_neg c1]
set_option maxHeartbeats 1000000 in
theorem q_isLet {B : Nat → Nat → Int} (hB : GB B) {n a b : Nat} (hn : n ≤ 36) (hab : a < b) (hbn : b ≤ n) {x1 x2 nn : Int} (e1 : x1 = a) (e2 : x2 = b) (en : nn = n) : wp (m_X9_isLet x1 x2 nn (B 17)) (fun v => (v = 1 ∧ LT B n a b) ∨ (v = 0 ∧ ¬ LT B n a b)) := by
  have hI : ∀ i, inI (B 17 i) := fun i => hB.1 17 i (by decide) (by decide) (by decide)
  have ea : x1.toNat = a := by omega
  have eb : x2.toNat = b := by omega
  have h34 : (a = 0 ∨ B 17 a ≠ 2) → (b = n ∨ B 17 b ≠ 2) → wp (m_X9_isLet_34 x1 x2 nn (B 17)) (fun v => (v = 1 ∧ LT B n a b) ∨ (v = 0 ∧ ¬ LT B n a b)) := by
    intro g1 g2
    unfold m_X9_isLet_34
    refine wp_vl (wp_bind (P := fun u : Nat × Int => (u.1 = 1 ∧ ∀ p, a < p → p < b → B 17 p ≠ 1) ∨ (u.1 = 2 ∧ ∃ p, a < p ∧ p < b ∧ B 17 p = 1)) (wp_loop (fun k y => y = ((a + 1 + k : Nat) : Int) ∧ ∀ p, a < p → p < a + 1 + k → B 17 p ≠ 1) (b - a - 1) (by omega) ⟨by omega, fun p h1 h2 => absurd h2 (by omega)⟩ ?_) ?_)
    · intro k y hk hs
      obtain ⟨a1, a2⟩ := hs
      unfold m_X9_isLet_38
      refine wp_gd (by omega) (wp_gd (by omega) (wp_if (fun c1 => ?_) (fun c1 => ?_)))
      · exact wp_end (by decide) (Or.inl ⟨rfl, fun p h1 h2 => a2 p h1 (by omega)⟩)
      · rw [show y.toNat = a + 1 + k by omega]
        refine wp_gd (by omega) (wp_gd (hI _) (wp_if (fun c2 => ?_) (fun c2 => ?_)))
        · exact wp_end (by decide) (Or.inr ⟨rfl, a + 1 + k, by omega, by omega, c2⟩)
        · refine wp_vl (wp_go ⟨by omega, by show y + 1 = _; omega, fun p h1 h2 => ?_⟩)
          by_cases hp : p = a + 1 + k
          · rw [hp]
            exact c2
          · exact a2 p h1 (by omega)
    · rintro ⟨t9, y⟩ hu
      have hu : (t9 = 1 ∧ ∀ p, a < p → p < b → B 17 p ≠ 1) ∨ (t9 = 2 ∧ ∃ p, a < p ∧ p < b ∧ B 17 p = 1) := hu
      show wp (if t9 = 1 then some (1 : Int) else some 0) _
      rcases hu with ⟨u1, u2⟩ | ⟨u1, p, p1, p2, p3⟩
      · exact wp_if (fun _ => wp_some (Or.inl ⟨rfl, g1, g2, u2⟩)) (fun z => absurd u1 z)
      · refine wp_if (fun z => absurd z (by omega)) (fun _ => wp_some (Or.inr ⟨rfl, fun z => z.2.2 p p1 p2 p3⟩))
  have h14 : (a = 0 ∨ B 17 a ≠ 2) → wp (m_X9_isLet_14 x1 x2 nn (B 17)) (fun v => (v = 1 ∧ LT B n a b) ∨ (v = 0 ∧ ¬ LT B n a b)) := by
    intro g1
    unfold m_X9_isLet_14
    rw [eb]
    refine wp_gd (by omega) (wp_gd (by omega) (wp_if (fun c1 => h34 g1 (Or.inl (by omega))) (fun c1 => ?_)))
    refine wp_gd (by omega) (wp_gd (hI _) (wp_if (fun c2 => ?_) (fun c2 => h34 g1 (Or.inr c2))))
    refine wp_some (Or.inr ⟨rfl, fun z => ?_⟩)
    rcases z.2.1 with h | h
    · omega
    · exact h c2
  unfold m_X9_isLet
  rw [ea]
  refine wp_gd (by omega) (wp_if (fun c1 => h14 (Or.inl (by omega))) (fun c1 => ?_))
  refine wp_gd (by omega) (wp_gd (hI _) (wp_if (fun c2 => ?_) (fun c2 => h14 (Or.inr c2))))
  refine wp_some (Or.inr ⟨rfl, fun z => ?_⟩)
  rcases z.1 with h | h
  · omega
  · exact h c2
/-- the fixed parts: the class's row beside the reference's four -/
def FX (B : Nat → Nat → Int) (n fm : Nat) (fF fT fW fE : Nat → Int) : Prop :=
  fm ≤ 36 ∧
  (∀ f, f < fm → (0 ≤ fF f ∧ fF f < fT f ∧ fT f ≤ n) ∧ (0 ≤ fW f ∧ fW f ≤ 60 ∧ -1 ≤ fE f ∧ fE f < 8 ∧ (fW f = 60 → fE f = -1)) ∧ EV B (9 * fW f + fE f + 1) ∧ B 19 (fF f).toNat = 1024 * fT f + (9 * fW f + fE f + 1) ∧ (fF f = 0 ∨ B 17 (fF f).toNat = 1) ∧ (fT f = n ∨ B 17 (fT f).toNat = 1) ∧ ∀ p : Nat, fF f < p → p < fT f → B 17 p = 2) ∧
  (∀ i, i < 36 → B 19 i ≠ 0 → ∃ f, f < fm ∧ fF f = i) ∧ (∀ f g, f < fm → g < fm → fF f = fF g → f = g)
set_option maxHeartbeats 1000000 in
theorem q_isAllowed {B : Nat → Nat → Int} (hB : GB B) {n fm a b : Nat} (hn : n ≤ 36) (hab : a < b) (hbn : b ≤ n) {fF fT fW fE : Nat → Int} (hF : FX B n fm fF fT fW fE) (hFi : ∀ i, inI (fF i) ∧ inI (fT i) ∧ inI (fW i) ∧ inI (fE i)) {w e : Int} (hw : 0 ≤ w ∧ w ≤ 60) (he : -1 ≤ e ∧ e < 8) (hwe : w = 60 → e = -1) {x1 x2 nn mm : Int} (e1 : x1 = a) (e2 : x2 = b) (en : nn = n) (em : mm = fm) :
    wp (m_X9_isAllowed x1 x2 w e nn mm (B 17) fF fT fW fE) (fun v => (v = 1 ∧ AL B n a b (9 * w + e + 1)) ∨ (v = 0 ∧ ¬ AL B n a b (9 * w + e + 1))) := by
  obtain ⟨hfm, hf, hback, _⟩ := hF
  -- a fixed part that overlaps a stretch that is let is that stretch
  have over : LT B n a b → ∀ f, f < fm → (a : Int) < fT f → fF f < (b : Int) → fF f = a ∧ fT f = b := by
    intro hl f hfl h1 h2
    obtain ⟨⟨p1, p2, p3⟩, _, _, _, q1, q2, q3⟩ := hf f hfl
    have c1 : fF f = a := by
      by_cases h : fF f = a
      · exact h
      · exfalso
        by_cases h3 : fF f < a
        · have h4 := q3 a h3 h1
          rcases hl.1 with h5 | h5
          · omega
          · exact h5 h4
        · rcases q1 with h4 | h4
          · omega
          · exact hl.2.2 (fF f).toNat (by omega) (by omega) h4
    have c2 : fT f = b := by
      by_cases h : fT f = b
      · exact h
      · exfalso
        by_cases h3 : fT f < b
        · rcases q2 with h4 | h4
          · omega
          · exact hl.2.2 (fT f).toNat (by omega) (by omega) h4
        · have h4 := q3 b h2 (by omega)
          rcases hl.2.1 with h5 | h5
          · omega
          · exact h5 h4
    exact ⟨c1, c2⟩
  unfold m_X9_isAllowed
  refine wp_bind (q_isLet hB hn hab hbn e1 e2 en) ?_
  intro r hr
  refine wp_bind (P := fun u : Nat × Int × Int => (u.2.1 = 1 ∧ LT B n a b ∧ ∀ f, f < fm → (a : Int) < fT f → fF f < (b : Int) → fW f = w ∧ fE f = e) ∨ (u.2.1 = 0 ∧ (LT B n a b → ∃ f, f < fm ∧ (a : Int) < fT f ∧ fF f < (b : Int) ∧ ¬ (fW f = w ∧ fE f = e)))) (wp_loop (fun k y => y.2 = (k : Int) ∧ ((y.1 = 1 ∧ LT B n a b ∧ ∀ f, f < k → (a : Int) < fT f → fF f < (b : Int) → fW f = w ∧ fE f = e) ∨ (y.1 = 0 ∧ (LT B n a b → ∃ f, f < fm ∧ (a : Int) < fT f ∧ fF f < (b : Int) ∧ ¬ (fW f = w ∧ fE f = e))))) fm (by omega) ⟨rfl, ?_⟩ ?_) ?_
  · rcases hr with ⟨h1, h2⟩ | ⟨h1, h2⟩
    · exact Or.inl ⟨h1, h2, fun f h => absurd h (by omega)⟩
    · exact Or.inr ⟨h1, fun z => absurd z h2⟩
  · intro k y hk hs
    obtain ⟨a1, hs⟩ := hs
    unfold m_X9_isAllowed_11
    have ek : y.2.toNat = k := by omega
    rw [ek]
    refine wp_gd (by omega) (wp_gd (by omega) (wp_if (fun c1 => ?_) (fun c1 => ?_)))
    · refine wp_end (by decide) ?_
      rcases hs with ⟨h1, h2, h3⟩ | h
      · exact Or.inl ⟨h1, h2, fun f hf2 => h3 f (by omega)⟩
      · exact Or.inr h
    · rcases hs with ⟨h1, h2, h3⟩ | ⟨h1, h2⟩
      · have hkf : k < fm := by omega
        have hfi := hFi k
        have hov := over h2 k hkf
        have hstep : ∀ (v : Int), ((v = 1 ∧ ((a : Int) < fT k → fF k < (b : Int) → fW k = w ∧ fE k = e)) ∨ (v = 0 ∧ (a : Int) < fT k ∧ fF k < (b : Int) ∧ ¬ (fW k = w ∧ fE k = e))) → wp (some ((0 : Nat), (v, y.2 + 1))) (fun u : Nat × Int × Int => (u.1 = 0 → k < fm ∧ (u.2.2 = ((k + 1 : Nat) : Int) ∧ ((u.2.1 = 1 ∧ LT B n a b ∧ ∀ f, f < k + 1 → (a : Int) < fT f → fF f < (b : Int) → fW f = w ∧ fE f = e) ∨ (u.2.1 = 0 ∧ (LT B n a b → ∃ f, f < fm ∧ (a : Int) < fT f ∧ fF f < (b : Int) ∧ ¬ (fW f = w ∧ fE f = e)))))) ∧ (u.1 ≠ 0 → (u.2.1 = 1 ∧ LT B n a b ∧ ∀ f, f < fm → (a : Int) < fT f → fF f < (b : Int) → fW f = w ∧ fE f = e) ∨ (u.2.1 = 0 ∧ (LT B n a b → ∃ f, f < fm ∧ (a : Int) < fT f ∧ fF f < (b : Int) ∧ ¬ (fW f = w ∧ fE f = e))))) := by
          intro v hv
          refine wp_some ⟨fun _ => ⟨hkf, by show y.2 + 1 = _; omega, ?_⟩, fun z => absurd rfl z⟩
          rcases hv with ⟨v1, v2⟩ | ⟨v1, v2⟩
          · refine Or.inl ⟨v1, h2, fun f hf2 g1 g2 => ?_⟩
            by_cases hfk : f = k
            · subst hfk
              exact v2 g1 g2
            · exact h3 f (by omega) g1 g2
          · exact Or.inr ⟨v1, fun _ => ⟨k, hkf, v2⟩⟩
        refine wp_gd (by omega) (wp_if (fun z => absurd z (by omega)) (fun _ => ?_))
        refine wp_gd (by omega) (wp_gd hfi.2.1 (wp_gd (by omega) (wp_if (fun c2 => ?_) (fun c2 => ?_))))
        · exact wp_vl (hstep y.1 (Or.inl ⟨h1, fun z => by omega⟩))
        · refine wp_gd (by omega) (wp_gd hfi.1 (wp_gd (by omega) (wp_if (fun c3 => ?_) (fun c3 => ?_))))
          · obtain ⟨o1, o2⟩ := hov (by omega) (by omega)
            refine wp_gd (by omega) (wp_if (fun c4 => ?_) (fun c4 => absurd (by omega) c4))
            refine wp_gd (by omega) (wp_if (fun c5 => ?_) (fun c5 => absurd (by omega) c5))
            refine wp_gd (by omega) (wp_gd hfi.2.2.1 (wp_gd (by omega) (wp_if (fun c6 => ?_) (fun c6 => ?_))))
            · refine wp_gd (by omega) (wp_gd hfi.2.2.2 (wp_gd (by omega) (wp_if (fun c7 => ?_) (fun c7 => ?_))))
              · exact wp_vl (hstep 1 (Or.inl ⟨rfl, fun _ _ => ⟨c6, c7⟩⟩))
              · exact wp_vl (hstep 0 (Or.inr ⟨rfl, by omega, by omega, fun z => c7 z.2⟩))
            · exact wp_vl (hstep 0 (Or.inr ⟨rfl, by omega, by omega, fun z => c6 z.1⟩))
          · exact wp_vl (hstep y.1 (Or.inl ⟨h1, fun _ z => by omega⟩))
      · exact wp_gd (by omega) (wp_if (fun _ => wp_end (by decide) (Or.inr ⟨h1, h2⟩)) (fun z => absurd h1 z))
  · rintro ⟨t9, x5, x6⟩ hu
    have hu : (x5 = 1 ∧ LT B n a b ∧ ∀ f, f < fm → (a : Int) < fT f → fF f < (b : Int) → fW f = w ∧ fE f = e) ∨ (x5 = 0 ∧ (LT B n a b → ∃ f, f < fm ∧ (a : Int) < fT f ∧ fF f < (b : Int) ∧ ¬ (fW f = w ∧ fE f = e))) := hu
    refine wp_gd (by omega) (wp_some ?_)
    rcases hu with ⟨u1, u2, u3⟩ | ⟨u1, u2⟩
    · refine Or.inl ⟨u1, u2, ?_⟩
      by_cases h0 : B 19 a = 0
      · exact Or.inl h0
      · obtain ⟨f, g1, g2⟩ := hback a (by omega) h0
        obtain ⟨⟨p1, p2, p3⟩, _, _, p4, _⟩ := hf f g1
        have h5 := over u2 f g1 (by omega) (by omega)
        have h6 := u3 f g1 (by omega) (by omega)
        refine Or.inr ?_
        rw [show (fF f).toNat = a by omega] at p4
        rw [p4, h5.2, h6.1, h6.2]
    · refine Or.inr ⟨u1, fun z => ?_⟩
      obtain ⟨f, g1, g2, g3, g4⟩ := u2 z.1
      obtain ⟨⟨p1, p2, p3⟩, q0, _, p4, _⟩ := hf f g1
      have h5 := over z.1 f g1 g2 g3
      rw [show (fF f).toNat = a by omega] at p4
      rcases z.2 with h6 | h6
      · omega
      · rw [p4, h5.2] at h6
        exact g4 ⟨by omega, by omega⟩
