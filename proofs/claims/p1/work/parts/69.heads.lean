/-! the class's reading: values, heads, rests -/
def FXC (B : Nat → Nat → Int) (n : Nat) : Prop := ∀ i, i < 36 → B 19 i ≠ 0 → ∃ b e : Nat, B 19 i = 1024 * (b : Int) + e ∧ i < b ∧ b ≤ n ∧ EV B e ∧ e ≤ 540
theorem FX_C {B : Nat → Nat → Int} {n fm : Nat} {fF fT fW fE : Nat → Int} (h : FX B n fm fF fT fW fE) : FXC B n := by
  intro i hi hne
  obtain ⟨f, h1, h2⟩ := h.2.2.1 i hi hne
  obtain ⟨⟨p1, p2, p3⟩, ⟨q1, q2, q3, q4, q5⟩, hev, h4, _⟩ := h.2.1 f h1
  refine ⟨(fT f).toNat, (9 * fW f + fE f + 1).toNat, ?_, by omega, by omega, ?_, by omega⟩
  · rw [show i = (fF f).toNat by omega, h4]
    omega
  · rw [show (((9 * fW f + fE f + 1).toNat : Nat) : Int) = 9 * fW f + fE f + 1 by omega]
    exact hev
/-- values of the parts of a kind over a stretch, as the fixed parts allow -/
def VV (B : Nat → Nat → Int) (t : Nat → Int) (a b k : Nat) (x : Int) : Prop := ∃ e : Nat, EV B e ∧ (B 19 a = 0 ∨ B 19 a = 1024 * (b : Int) + e) ∧ kd (B 6) e = k ∧ ∃ c, CL B t e a b c ∧ x = 1024 * c + e
theorem VV_bd {B : Nat → Nat → Int} {t : Nat → Int} (hB : GB B) (hW : GW B) {a b k : Nat} {x : Int} (h : VV B t a b k x) : -400000 ≤ x ∧ x ≤ 4000000 := by
  obtain ⟨e, h1, _, _, c, h4, h5⟩ := h
  have := CL_bd hB hW h1 h4
  have : e ≤ 540 := by rcases h1 with z | z <;> omega
  omega
def FV (B : Nat → Nat → Int) (t : Nat → Int) (n : Nat) (fv : Nat → Int) : Prop := (∀ i b e : Nat, i < n → B 19 i ≠ 0 → B 19 i = 1024 * (b : Int) + e → e ≤ 540 → Lst (fun x => ∃ c, CL B t e i b c ∧ x = 1024 * c + e) 2147483647 (fv i)) ∧ ∀ i, inI (fv i)
set_option maxHeartbeats 1000000 in
theorem q_valueFixed {B : Nat → Nat → Int} {t : Nat → Int} (hB : GB B) (hW : GW B) (ht : ∀ k, inI (t k)) {n : Nat} (hn : n ≤ 36) (hX : FXC B n) {now next fv : Nat → Int} {low high : Int} (nA xA : Nat) (hok : spOk now next low high) (hv : ∀ i, inI (fv i)) {sl : Int} (es : sl = n) :
    wp (m_X3_valueFixedParts (B 0) (B 1) (B 2) (B 3) (B 4) (B 8) (B 9) (B 12) (B 13) fv sl t (B 19) now nA next xA low high) (fun u => FV B t n u.1 ∧ spOk u.2.1 u.2.2.2.1 u.2.2.2.2.2.1 u.2.2.2.2.2.2) := by
  have hI : ∀ i, inI (B 19 i) := fun i => hB.1 19 i (by decide) (by decide) (by decide)
  unfold m_X3_valueFixedParts
  refine wp_bind (P := fun u : Nat × Int × (Nat → Int) × (Nat → Int) × Nat × (Nat → Int) × Nat × Int × Int => FV B t n u.2.2.1 ∧ spOk u.2.2.2.1 u.2.2.2.2.2.1 u.2.2.2.2.2.2.2.1 u.2.2.2.2.2.2.2.2) (wp_loop (fun k y => y.1 = (k : Int) ∧ FV B t k y.2.1 ∧ spOk y.2.2.1 y.2.2.2.2.1 y.2.2.2.2.2.2.1 y.2.2.2.2.2.2.2) n (by omega) ⟨rfl, ⟨fun i b e h => absurd h (by omega), hv⟩, hok⟩ ?_) ?_
  · intro k y hk hs
    obtain ⟨a1, ⟨a2, a3⟩, a4⟩ := hs
    unfold m_X3_valueFixedParts_2
    refine wp_gd (by omega) (wp_gd (by omega) (wp_if (fun c1 => ?_) (fun c1 => ?_)))
    · refine wp_end (by decide) ⟨?_, a4⟩
      rw [show n = k by omega]
      exact ⟨a2, a3⟩
    · rw [show y.1.toNat = k by omega]
      refine wp_gd (by omega) (wp_gd (hI _) (wp_if (fun c2 => ?_) (fun c2 => ?_)))
      · refine wp_vl (wp_go ⟨by omega, by show y.1 + 1 = _; omega, ⟨fun i b e h1 h2 h3 h4 => ?_, a3⟩, a4⟩)
        by_cases h : i = k
        · subst h
          exact absurd c2 h2
        · exact a2 i b e (by omega) h2 h3 h4
      · obtain ⟨b, e, f1, f2, f3, f4, f5⟩ := hX k (by omega) c2
        have em : B 19 k % 1024 = e := by omega
        have ed : B 19 k / 1024 = b := by omega
        rw [em, ed]
        refine wp_gd (by omega) (wp_vl (wp_gd (by omega) (wp_bind (q_costOf hB hW ht f4 (a := k) (b := b) (by omega) (by omega) _ _ a4 rfl a1 rfl) ?_)))
        rintro ⟨r, n1, n1A, n2, n2A, lo, hi⟩ ⟨w1, w2⟩
        have w1 : Lst (CL B t e k b) 268435456 r := w1
        have hr : r = 268435456 ∨ (-300 ≤ r ∧ r ≤ 3000) := by
          rcases w1 with ⟨z, _⟩ | ⟨_, z, _⟩
          · exact Or.inl z
          · have := CL_bd hB hW f4 z
            omega
        have hL : Lst (fun x => ∃ c, CL B t e k b c ∧ x = 1024 * c + e) 2147483647 (if r = 268435456 then 2147483647 else 1024 * r + e) := by
          refine Lst.map (fun v => 1024 * v + e) (fun x z h => ?_) (fun X => Iff.rfl) (fun x hx => ?_) w1
          · show 1024 * x + (e : Int) ≤ 1024 * z + e
            omega
          · have := CL_bd hB hW f4 hx
            show 1024 * x + (e : Int) < 2147483647
            omega
        have hfin : ∀ v : Int, v = (if r = 268435456 then 2147483647 else 1024 * r + e) → FV B t (k + 1) (uz y.2.1 k v) := by
          intro v hv2
          refine ⟨fun i b' e' h1 h2 h3 h4 => ?_, uz_inI a3 ?_⟩
          · by_cases h : i = k
            · subst h
              have hb : b' = b := by omega
              have he : e' = e := by omega
              subst hb
              subst he
              rw [uz_at, hv2]
              exact hL
            · rw [uz_ne _ _ h]
              exact a2 i b' e' (by omega) h2 h3 h4
          · rw [hv2]
            rcases hr with h | h
            · rw [if_pos h]
              decide
            · rw [if_neg (by omega)]
              omega
        refine wp_gd (by omega) (wp_if (fun c3 => ?_) (fun c3 => ?_))
        · exact wp_gd (by omega) (wp_vl (wp_vl (wp_go ⟨by omega, by show y.1 + 1 = _; omega, hfin _ (by rw [if_pos c3]), w2⟩)))
        · exact wp_gd (by omega) (wp_vl (wp_vl (wp_go ⟨by omega, by show y.1 + 1 = _; omega, hfin _ (by rw [if_neg c3]; omega), w2⟩)))
  · rintro ⟨t2, y1, f, n1, n1A, n2, n2A, lo, hi⟩ hu
    exact wp_some hu
set_option maxHeartbeats 1000000 in
theorem q_valueOf {B : Nat → Nat → Int} {t : Nat → Int} (hB : GB B) (hW : GW B) {n : Nat} (hn : n ≤ 36) (hX : FXC B n) {fv vals : Nat → Int} (hF : FV B t n fv) (hV : ∀ b, 1 ≤ b → b ≤ n → COL B t (B 18 0).toNat b vals) {a b k : Nat} (hab : a < b) (hbn : b ≤ n) (hk : k ≤ 8) {x1 x2 x3 : Int} (e1 : x1 = a) (e2 : x2 = b) (e3 : x3 = k) : wp (m_X3_valueOf x1 x2 x3 (B 6) fv (B 19) vals) (fun v => Lst (VV B t a b k) 2147483647 v) := by
  have hI : inI (B 19 a) := hB.1 19 a (by decide) (by decide) (by decide)
  have hW0 := hW.1
  have ea : x1.toNat = a := by omega
  unfold m_X3_valueOf
  rw [ea]
  refine wp_gd (by omega) (wp_vl (wp_gd hI (wp_if (fun c1 => ?_) (fun c1 => ?_))))
  · refine wp_eq (q_placeOf (by omega) (by omega)) ?_
    have hixl := ix_lt (a := a) (b := b) (k := k) (by omega) hab hk
    have hT : (((b * (b - 1) / 2 : Nat) : Int)) = (b : Int) * ((b : Int) - 1) / 2 := by
      rw [Int.natCast_ediv, Int.natCast_mul, Int.natCast_sub (by omega)]
      rfl
    have eix : (x2 * (x2 - 1) / 2 + x1) * 9 + x3 = ((ix a b k : Nat) : Int) := by
      rw [e2, ← hT]
      unfold ix
      omega
    rw [eix, Int.toNat_natCast]
    refine wp_gd (by omega) (wp_some ?_)
    refine (hV b (by omega) hbn a k hab hk).iff (fun x => ?_)
    constructor
    · rintro ⟨e, h1, h2, h3, h4⟩
      refine ⟨e, h1, ?_, h3, h4⟩
      rcases h1 with z | ⟨z1, z2, z3, _⟩
      · omega
      · omega
    · rintro ⟨e, h1, _, h3, h4⟩
      exact ⟨e, h1, Or.inl c1, h3, h4⟩
  · obtain ⟨b', e', f1, f2, f3, f4, f5⟩ := hX a (by omega) c1
    have em : B 19 a % 1024 = e' := by omega
    have ed : B 19 a / 1024 = b' := by omega
    rw [em, ed]
    have hkb := kd_bd hW f4
    have hnone : (b' ≠ b ∨ kd (B 6) e' ≠ k) → Lst (VV B t a b k) 2147483647 2147483647 := by
      intro h
      refine Lst.none ?_
      rintro x ⟨e, h1, h2, h3, h4⟩
      have he : e ≤ 540 := by rcases h1 with z | z <;> omega
      rcases h2 with h2 | h2
      · exact c1 h2
      · have hb : b' = b := by omega
        have hee : e' = e := by omega
        subst hee
        rcases h with h | h
        · exact h hb
        · exact h h3
    refine wp_gd (by omega) (wp_gd (by omega) (wp_if (fun c2 => ?_) (fun c2 => ?_)))
    · refine wp_eq (q_kindOf (by omega)) (wp_gd (by omega) (wp_gd (by omega) (wp_if (fun c3 => ?_) (fun c3 => ?_))))
      · unfold m_X3_valueOf_67
        refine wp_gd (by decide) (wp_if (fun z => absurd z (by decide)) (fun _ => ?_))
        rw [ea]
        refine wp_gd (by omega) (wp_some ?_)
        have hb : b' = b := by omega
        subst hb
        refine (hF.1 a b' e' (by omega) c1 f1 f5).iff (fun x => ?_)
        constructor
        · rintro ⟨e, h1, h2, h3, h4⟩
          have he : e ≤ 540 := by rcases h1 with z | z <;> omega
          have hee : e = e' := by
            rcases h2 with h2 | h2
            · exact absurd h2 c1
            · omega
          subst hee
          exact h4
        · intro h4
          exact ⟨e', f4, Or.inr f1, by omega, h4⟩
      · unfold m_X3_valueOf_66 m_X3_valueOf_67
        refine wp_gd (by decide) (wp_if (fun _ => wp_some (hnone (Or.inr (by omega)))) (fun z => absurd rfl z))
    · unfold m_X3_valueOf_66 m_X3_valueOf_67
      refine wp_gd (by decide) (wp_if (fun _ => wp_some (hnone (Or.inl (by omega)))) (fun z => absurd rfl z))
theorem q_partsAt {B : Nat → Nat → Int} (hB : GB B) {n p : Nat} (hn : n ≤ 36) (hp : p ≤ n) {x sl : Int} (e : x = p) (es : sl = n) : wp (m_X4_partsAt x sl (B 17)) (fun v => (v = 1 ∧ (p = 0 ∨ p = n ∨ B 17 p ≠ 2)) ∨ (v = 0 ∧ ¬ (p = 0 ∨ p = n ∨ B 17 p ≠ 2))) := by
  unfold m_X4_partsAt
  refine wp_gd (by omega) (wp_if (fun c1 => wp_some (Or.inl ⟨rfl, Or.inl (by omega)⟩)) (fun c1 => ?_))
  refine wp_gd (by omega) (wp_if (fun c2 => wp_some (Or.inl ⟨rfl, Or.inr (Or.inl (by omega))⟩)) (fun c2 => ?_))
  rw [show x.toNat = p by omega]
  refine wp_gd (by omega) (wp_gd (hB.1 17 _ (by decide) (by decide) (by decide)) (wp_if (fun c3 => ?_) (fun c3 => wp_some (Or.inl ⟨rfl, Or.inr (Or.inr c3)⟩))))
  refine wp_some (Or.inr ⟨rfl, ?_⟩)
  rintro (h | h | h)
  · omega
  · omega
  · exact h c3
theorem q_reachFrom {B : Nat → Nat → Int} (hB : GB B) {n a : Nat} (hn : n ≤ 36) (ha : a < n) {x sl : Int} (e : x = a) (es : sl = n) : wp (m_X4_reachFrom x sl (B 17)) (fun v => ∃ r : Nat, v = r ∧ a < r ∧ r ≤ n ∧ (∀ p, a < p → p < r → B 17 p ≠ 1) ∧ (r = n ∨ B 17 r = 1)) := by
  unfold m_X4_reachFrom
  refine wp_vl (wp_bind (P := fun u : Nat × Int => ∃ r : Nat, u.2 = r ∧ a < r ∧ r ≤ n ∧ (∀ p, a < p → p < r → B 17 p ≠ 1) ∧ (r = n ∨ B 17 r = 1)) (wp_loop (fun k y => y = ((a + 1 + k : Nat) : Int) ∧ a + 1 + k ≤ n ∧ ∀ p, a < p → p < a + 1 + k → B 17 p ≠ 1) 36 (by omega) ⟨by omega, by omega, fun p h1 h2 => absurd h2 (by omega)⟩ ?_) ?_)
  · intro k y hk hs
    obtain ⟨a1, a2, a3⟩ := hs
    unfold m_X4_reachFrom_4
    refine wp_gd (by omega) (wp_gd (by omega) (wp_if (fun c1 => ?_) (fun c1 => ?_)))
    · exact wp_end (by decide) ⟨a + 1 + k, a1, by omega, by omega, a3, Or.inl (by omega)⟩
    · rw [show y.toNat = a + 1 + k by omega]
      refine wp_gd (by omega) (wp_gd (hB.1 17 _ (by decide) (by decide) (by decide)) (wp_if (fun c2 => ?_) (fun c2 => ?_)))
      · exact wp_end (by decide) ⟨a + 1 + k, a1, by omega, by omega, a3, Or.inr c2⟩
      · refine wp_vl (wp_go ⟨by omega, by show y + 1 = _; omega, by omega, fun p h1 h2 => ?_⟩)
        by_cases h : p = a + 1 + k
        · rw [h]
          exact c2
        · exact a3 p h1 (by omega)
  · rintro ⟨t4, y⟩ hu
    exact wp_some hu
