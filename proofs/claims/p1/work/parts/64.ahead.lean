/-! the reference: the costs ahead -/
def fwd (B : Nat → Nat → Int) (ah : Nat → Int) (a : Nat) (k x : Int) : Prop := ∃ k' : Nat, k' ≤ 9 ∧ ah (10 * a + k') < 134217728 ∧ x = ah (10 * a + k') + stp B k' k
def AB (n : Nat) (ah : Nat → Int) : Prop := (∀ (b : Nat) (k : Nat), b ≤ n → k ≤ 9 → ah (10 * b + k) < 134217728 → -(4000 * (b : Int)) ≤ ah (10 * b + k) ∧ ah (10 * b + k) ≤ 4000 * (b : Int)) ∧ ∀ i, inI (ah i)
set_option maxHeartbeats 1000000 in
theorem q_leastAhead {B : Nat → Nat → Int} (hB : GB B) (hS : GS B) {n a : Nat} (hn : n ≤ 36) (ha : a ≤ n) {ah : Nat → Int} (hA : AB n ah) {x1 k : Int} (e1 : x1 = a) (hk : 0 ≤ k ∧ k ≤ 8) : wp (m_X9_leastAhead x1 k (B 14) (B 15) ah) (fun v => Lst (fwd B ah a k) 134217728 v ∧ (v < 134217728 → -(4000 * (a : Int)) - 62 ≤ v ∧ v ≤ 4000 * (a : Int) + 90)) := by
  unfold m_X9_leastAhead
  refine wp_bind (P := fun u : Nat × Int × Int => Lst (fwd B ah a k) 134217728 u.2.1 ∧ (u.2.1 < 134217728 → -(4000 * (a : Int)) - 62 ≤ u.2.1 ∧ u.2.1 ≤ 4000 * (a : Int) + 90)) (wp_loop (fun j y => y.2 = (j : Int) ∧ Lst (fun x => ∃ k' : Nat, k' < j ∧ ah (10 * a + k') < 134217728 ∧ x = ah (10 * a + k') + stp B k' k) 134217728 y.1 ∧ (y.1 < 134217728 → -(4000 * (a : Int)) - 62 ≤ y.1 ∧ y.1 ≤ 4000 * (a : Int) + 90) ∧ y.1 ≤ 134217728) 10 (by omega) ⟨rfl, Lst.none (fun x ⟨k', h, _⟩ => absurd h (by omega)), fun h => absurd h (by decide), Int.le_refl _⟩ ?_) ?_
  · intro j y hj hs
    obtain ⟨a1, a2, a3, a4⟩ := hs
    unfold m_X9_leastAhead_6
    refine wp_gd (by omega) (wp_if (fun c1 => ?_) (fun c1 => ?_))
    · refine wp_end (by decide) ⟨a2.iff (fun x => ?_), a3⟩
      constructor
      · rintro ⟨k', h1, h2⟩
        exact ⟨k', by omega, h2⟩
      · rintro ⟨k', h1, h2⟩
        exact ⟨k', by omega, h2⟩
    · have et : (10 * x1 + y.2).toNat = 10 * a + j := by omega
      refine wp_eq (show m_X9_at x1 y.2 = some (10 * x1 + y.2) from rfl) ?_
      rw [et]
      refine wp_gd (by omega) (wp_gd (hA.2 _) (wp_if (fun c2 => ?_) (fun c2 => ?_)))
      · refine wp_vl (wp_go ⟨by omega, by show y.2 + 1 = _; omega, a2.iff (fun x => ?_), a3, a4⟩)
        constructor
        · rintro ⟨k', h1, h2, h3⟩
          have : k' ≠ j := fun z => by rw [z] at h2; omega
          exact ⟨k', by omega, h2, h3⟩
        · rintro ⟨k', h1, h2⟩
          exact ⟨k', by omega, h2⟩
      · have hst := stp_bd hS (k := (j : Int)) (j := k) (by omega) hk
        have hab := hA.1 a j ha (by omega) (by omega)
        refine wp_eq (show m_X9_at x1 y.2 = some (10 * x1 + y.2) from rfl) (wp_gd (by omega) (wp_eq (q_stepOf hB (k := y.2) (by omega) hk) ?_))
        rw [et, a1]
        have hyI : inI y.1 := by
          by_cases h : y.1 < 134217728
          · have := a3 h
            omega
          · omega
        refine wp_gd hyI (wp_gd (by omega) (wp_vl (wp_vl (wp_go ⟨by omega, by show (j : Int) + 1 = _; omega, ?_, ?_, ?_⟩))))
        · refine a2.push (by omega) (fun x => ?_)
          constructor
          · rintro ⟨k', h1, h2, h3⟩
            by_cases hkj : k' = j
            · subst hkj
              exact Or.inr h3
            · exact Or.inl ⟨k', by omega, h2, h3⟩
          · rintro (⟨k', h1, h2⟩ | rfl)
            · exact ⟨k', by omega, h2⟩
            · exact ⟨j, by omega, by omega, rfl⟩
        · intro _
          show -(4000 * (a : Int)) - 62 ≤ min y.1 (ah (10 * a + j) + stp B j k) ∧ min y.1 (ah (10 * a + j) + stp B j k) ≤ 4000 * (a : Int) + 90
          by_cases h : y.1 < 134217728
          · have := a3 h
            omega
          · omega
        · show min y.1 (ah (10 * a + j) + stp B j k) ≤ 134217728
          omega
  · rintro ⟨t6, y3, y4⟩ hu
    exact wp_some hu
theorem fwd_eq {B : Nat → Nat → Int} {f g : Nat → Int} {a : Nat} (h : ∀ k, k ≤ 9 → f (10 * a + k) = g (10 * a + k)) {k x : Int} : fwd B f a k x ↔ fwd B g a k x := by
  constructor
  · rintro ⟨k', h1, h2, h3⟩
    rw [h k' h1] at h2 h3
    exact ⟨k', h1, h2, h3⟩
  · rintro ⟨k', h1, h2, h3⟩
    rw [← h k' h1] at h2 h3
    exact ⟨k', h1, h2, h3⟩
/-- the line up to b with a last part of a kind, of what was gone through so far -/
def ASp (B : Nat → Nat → Int) (t : Nat → Int) (n : Nat) (ah : Nat → Int) (a ent cb b k : Nat) (x : Int) : Prop := ∃ (a' e : Nat) (c y : Int), (a' < a ∨ (a' = a ∧ bfr ent cb e b)) ∧ PC B t n a' b e c ∧ kd (B 6) e = k ∧ fwd B ah a' k y ∧ x = y + c
def JA (B : Nat → Nat → Int) (t : Nat → Int) (n a : Nat) (ah0 : Nat → Int) (ent cb : Nat) (ah : Nat → Int) : Prop := (∀ i, i < 10 * (a + 1) → ah i = ah0 i) ∧ AB n ah ∧ (∀ b, 1 ≤ b → b ≤ n → ah (10 * b + 9) = 134217728) ∧ ∀ b k : Nat, 1 ≤ b → b ≤ n → k ≤ 8 → Lst (ASp B t n ah0 a ent cb b k) 134217728 (ah (10 * b + k))
set_option maxHeartbeats 2000000 in
theorem q_goAhead {B : Nat → Nat → Int} {t : Nat → Int} (hB : GB B) (hW : GW B) (hS : GS B) {n fm a b : Nat} (hn : n ≤ 36) (hab : a < b) (hbn : b ≤ n) {fF fT fW fE tb ah0 ah : Nat → Int} (hT : TBL B t n (540 * n) tb) (hF : FX B n fm fF fT fW fE) (hFi : ∀ i, inI (fF i) ∧ inI (fT i) ∧ inI (fW i) ∧ inI (fE i)) {w e : Int} (hw : (0 ≤ w ∧ w < B 18 0) ∨ w = 60) (he : -1 ≤ e ∧ e < 8) (he2 : w ≠ 60 → e < B 18 1) (hwe : w = 60 → e = -1) {x1 x5 gu ba nn mm : Int} (e1 : x1 = a) (e5 : x5 = b) (eg : gu = B 13 1) (eb : ba = B 13 2) (en : nn = n) (em : mm = fm)
    (hJ : JA B t n a ah0 (9 * w + e + 1).toNat b ah) : wp (m_X9_goAhead x1 x5 w e (B 6) (B 7) (B 8) (B 11) (B 12) gu ba (B 14) (B 15) nn mm (B 17) fF fT fW fE tb ah) (fun u => JA B t n a ah0 (9 * w + e + 1).toNat (b + 1) u) := by
  have hW0 := hW.1
  have hE0 := hW.2.1
  obtain ⟨E, eE⟩ : ∃ E : Nat, (9 * w + e + 1) = E := ⟨(9 * w + e + 1).toNat, by omega⟩
  have eE2 : (9 * w + e + 1).toNat = E := by omega
  rw [eE2] at hJ ⊢
  obtain ⟨j1, j2, j3, j4⟩ := hJ
  have hfw : ∀ (k x : Int), fwd B ah a k x ↔ fwd B ah0 a k x := fun k x => fwd_eq (fun k' hk' => j1 _ (by omega))
  have hmono : ∀ e' b', bfr E b e' b' → bfr E (b + 1) e' b' := by
    intro e' b' h
    unfold bfr at h ⊢
    omega
  have hsame : (∀ (c y : Int), PC B t n a b E c → ¬ fwd B ah0 a (kd (B 6) E) y) → JA B t n a ah0 E (b + 1) ah := by
    intro hno
    refine ⟨j1, j2, j3, fun b' k h1 h2 h3 => (j4 b' k h1 h2 h3).iff (fun x => ?_)⟩
    constructor
    · rintro ⟨a', e', c, y, g1, g2, g3, g4, g5⟩
      refine ⟨a', e', c, y, ?_, g2, g3, g4, g5⟩
      rcases g1 with g1 | ⟨g1, g6⟩
      · exact Or.inl g1
      · refine Or.inr ⟨g1, ?_⟩
        by_cases hz : e' = E ∧ b' = b
        · obtain ⟨rfl, rfl⟩ := hz
          subst g1
          rw [← g3] at g4
          exact absurd g4 (hno c y g2)
        · unfold bfr at g6 ⊢
          omega
    · rintro ⟨a', e', c, y, g1, g2⟩
      refine ⟨a', e', c, y, ?_, g2⟩
      rcases g1 with g1 | ⟨g1, g6⟩
      · exact Or.inl g1
      · exact Or.inr ⟨g1, hmono _ _ g6⟩
  unfold m_X9_goAhead
  refine wp_bind (q_rcost hB hW hn hT hab hbn hw ⟨he.1, by by_cases h : w = 60 <;> omega⟩ hwe e1 e5 eg eb) ?_
  intro c hc
  rw [eE] at hc
  by_cases hev : EV B E
  · have hcl := hc.1 hev
    have hkb := kd_bd hW hev
    have hcI : inI c := by
      rcases hcl with ⟨h1, _⟩ | ⟨h1, h2, _⟩
      · omega
      · have := CL_bd hB hW hev h2
        omega
    refine wp_gd hcI (wp_if (fun c1 => ?_) (fun c1 => ?_))
    · refine wp_some (hsame (fun c' y h1 _ => ?_))
      have := (hcl.le h1.2.2.2.1).2
      omega
    · have hmem := hcl.mem (by omega)
      have hcb := CL_bd hB hW hev hmem
      have hk := q_rkind (K := B 6) (w := w) (e := e) (by omega) he hwe
      rw [eE] at hk
      refine wp_bind (q_isAllowed hB hn hab hbn hF hFi (w := w) (e := e) (by omega) he hwe e1 e5 en em) ?_
      intro r hr
      rw [eE] at hr
      refine wp_gd (by omega) (wp_if (fun c3 => ?_) (fun c3 => ?_))
      · refine wp_some (hsame (fun c' y h1 _ => ?_))
        rcases hr with ⟨r1, _⟩ | ⟨_, r2⟩
        · omega
        · exact r2 h1.2.2.1
      · have hal : AL B n a b E := by
          rcases hr with ⟨_, r2⟩ | ⟨r1, _⟩
          · exact r2
          · omega
        have hpc : PC B t n a b E c := ⟨⟨hab, hbn⟩, hev, hal, hmem, fun x hx => (hcl.le hx).1⟩
        refine wp_eq hk (wp_bind (q_leastAhead hB hS hn (a := a) (by omega) j2 e1 hkb) ?_)
        rintro v ⟨hv, hvb⟩
        have hvI : inI v := by
          by_cases h : v < 134217728
          · have := hvb h
            omega
          · rcases hv with ⟨z, _⟩ | ⟨z, _⟩ <;> omega
        refine wp_gd hvI (wp_if (fun c4 => ?_) (fun c4 => ?_))
        · refine wp_some (hsame (fun c' y h1 h2 => ?_))
          have := (hv.le ((hfw _ _).mpr h2)).2
          omega
        · have hvb2 := hvb (by omega)
          obtain ⟨K, eK⟩ : ∃ K : Nat, kd (B 6) E = K := ⟨(kd (B 6) E).toNat, by omega⟩
          rw [eK] at hk hv hkb
          have et : (10 * x5 + (K : Int)).toNat = 10 * b + K := by omega
          refine wp_eq hk (wp_eq (show m_X9_at x5 K = some (10 * x5 + K) from rfl) (wp_eq hk (wp_eq (show m_X9_at x5 K = some (10 * x5 + K) from rfl) ?_)))
          rw [et]
          have hah := j2.2 (10 * b + K)
          refine wp_gd (by omega) (wp_gd hah (wp_gd (by omega) (wp_gd (by omega) (wp_vl (wp_some ⟨fun i hi => ?_, ⟨fun b' k' h1 h2 h3 => ?_, uz_inI j2.2 (by omega)⟩, fun b' h1 h2 => ?_, fun b' k' h1 h2 h3 => ?_⟩)))))
          · show uz ah (10 * b + K) _ i = _
            rw [uz_ne _ _ (by omega)]
            exact j1 i hi
          · show -(4000 * (b' : Int)) ≤ uz ah (10 * b + K) (min (ah (10 * b + K)) (v + c)) (10 * b' + k') ∧ uz ah (10 * b + K) (min (ah (10 * b + K)) (v + c)) (10 * b' + k') ≤ 4000 * (b' : Int)
            have h3 : uz ah (10 * b + K) (min (ah (10 * b + K)) (v + c)) (10 * b' + k') < 134217728 := h3
            by_cases hz : 10 * b' + k' = 10 * b + K
            · rw [hz, uz_at] at h3 ⊢
              have hbb : b' = b := by omega
              subst hbb
              by_cases h9 : ah (10 * b' + K) < 134217728
              · have := j2.1 b' K h1 (by omega) h9
                omega
              · omega
            · rw [uz_ne _ _ hz] at h3 ⊢
              exact j2.1 b' k' h1 h2 h3
          · show uz ah (10 * b + K) _ (10 * b' + 9) = 134217728
            rw [uz_ne _ _ (by omega)]
            exact j3 b' h1 h2
          · show Lst _ 134217728 (uz ah (10 * b + K) (min (ah (10 * b + K)) (v + c)) (10 * b' + k'))
            by_cases hz : b' = b ∧ k' = K
            · obtain ⟨rfl, rfl⟩ := hz
              rw [uz_at]
              refine Lst.dom ((j4 b' k' h1 h2 h3).push (S' := fun x => ASp B t n ah0 a E b' b' k' x ∨ x = v + c) (by omega) (fun x => Iff.rfl)) ?_ ?_
              · rintro x (⟨a', e', c', y, g1, g2⟩ | rfl)
                · refine ⟨a', e', c', y, ?_, g2⟩
                  rcases g1 with g1 | ⟨g1, g6⟩
                  · exact Or.inl g1
                  · exact Or.inr ⟨g1, hmono _ _ g6⟩
                · exact ⟨a, E, c, v, Or.inr ⟨rfl, Or.inr ⟨rfl, by omega⟩⟩, hpc, eK, (hfw _ _).mp (hv.mem (by omega)), rfl⟩
              · rintro x ⟨a', e', c', y, g1, g2, g3, g4, g5⟩
                by_cases hz : a' = a ∧ e' = E
                · obtain ⟨rfl, rfl⟩ := hz
                  have h5 := PC_one g2 hpc
                  have h6 := (hv.le ((hfw _ _).mpr g4)).1
                  exact ⟨v + c, Or.inr rfl, by omega⟩
                · refine ⟨x, Or.inl ⟨a', e', c', y, ?_, g2, g3, g4, g5⟩, Int.le_refl _⟩
                  rcases g1 with g1 | ⟨g1, g6⟩
                  · exact Or.inl g1
                  · refine Or.inr ⟨g1, ?_⟩
                    unfold bfr at g6 ⊢
                    omega
            · rw [uz_ne _ _ (by omega)]
              refine (j4 b' k' h1 h2 h3).iff (fun x => ?_)
              constructor
              · rintro ⟨a', e', c', y, g1, g2, g3, g4, g5⟩
                refine ⟨a', e', c', y, ?_, g2, g3, g4, g5⟩
                rcases g1 with g1 | ⟨g1, g6⟩
                · exact Or.inl g1
                · refine Or.inr ⟨g1, ?_⟩
                  by_cases hy : e' = E ∧ b' = b
                  · obtain ⟨rfl, rfl⟩ := hy
                    exact absurd ⟨rfl, by omega⟩ hz
                  · unfold bfr at g6 ⊢
                    omega
              · rintro ⟨a', e', c', y, g1, g2⟩
                refine ⟨a', e', c', y, ?_, g2⟩
                rcases g1 with g1 | ⟨g1, g6⟩
                · exact Or.inl g1
                · exact Or.inr ⟨g1, hmono _ _ g6⟩
  · have hcN := hc.2 hev
    refine wp_gd (by omega) (wp_if (fun c1 => ?_) (fun c1 => absurd (by omega) c1))
    exact wp_some (hsame (fun c' y h1 _ => hev h1.2.1))
