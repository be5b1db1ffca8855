/-! the reference's choices -/
abbrev st4 : Type := (Nat → Int) × (Nat → Int) × (Nat → Int) × Int
def JC (V : Nat → Int → Prop) (k : Nat) (s : st4) : Prop := (∃ len : Nat, s.2.2.2 = len ∧ len ≤ 12 ∧ OFS V k (len, pent s.1 s.2.1, s.2.2.1) ∧ ∀ i, i < len → (0 ≤ s.1 i ∧ s.1 i ≤ 60) ∧ (-1 ≤ s.2.1 i ∧ s.2.1 i < 8) ∧ (s.1 i = 60 → s.2.1 i = -1)) ∧ ∀ i, inI (s.2.2.1 i)
theorem JC.skip {V : Nat → Int → Prop} {k k' : Nat} {s : st4} (h : JC V k s) (hk : k ≤ k') (hno : ∀ i, k ≤ i → i < k' → ∀ v, ¬ V i v) : JC V k' s := by
  obtain ⟨⟨len, h1, h2, h3, h4⟩, h5⟩ := h
  refine ⟨⟨len, h1, h2, ?_, h4⟩, h5⟩
  have h9 := OFS.skip (l := (len, pent s.1 s.2.1, s.2.2.1)) h2 (k' - k) k h3 (fun i g1 g2 => hno i g1 (by omega))
  rw [show k + (k' - k) = k' by omega] at h9
  exact h9
set_option maxHeartbeats 4000000 in
theorem q_choose0 {B : Nat → Nat → Int} {t : Nat → Int} (hB : GB B) (hW : GW B) (hS : GS B) {n a b : Nat} (hn : n ≤ 36) (hab : a < b) (hbn : b ≤ n) (hlt : LT B n a b) {tb rest ah pF pT cW cE cC : Nat → Int} (hT : TBL B t n (540 * n) tb) (hR : BR B t n 0 rest) (hA : AHD B t n ah) (hC : ∀ i, inI (cC i)) {La : Nat → Int} (hLa : ∀ j : Nat, j ≤ 8 → Lst (fwd B ah a j) 134217728 (La j)) {gu ba nn x1 ch : Int} (eg : gu = B 13 1) (eb : ba = B 13 2) (en : nn = n) (hx : 0 ≤ x1 ∧ x1 < 36) (ea : pF x1.toNat = a) (ebb : pT x1.toNat = b) :
    wp (m_X9_choose0 x1 (B 6) (B 7) (B 8) (B 11) (B 12) (B 18 0) (B 18 1) gu ba (B 14) (B 15) nn (B 17) tb rest ah pF pT cW cE cC ch) (fun u => JC (VL B t a b La (fun j => rest (10 * b + j)) 134217728 134217728) 541 u) := by
  have hW0 := hW.1
  have hE0 := hW.2.1
  obtain ⟨V, eV⟩ : ∃ V : Nat → Int → Prop, V = VL B t a b La (fun j => rest (10 * b + j)) 134217728 134217728 := ⟨_, rfl⟩
  have hVE : ∀ i v, V i v → EV B i := fun i v h => by rw [eV] at h; exact h.1
  rw [← eV]
  -- one entry
  have hstep : ∀ (w e t1 : Int) (s : st4), ((0 ≤ w ∧ w < B 18 0) ∨ w = 60) → (-1 ≤ e ∧ e < 8) → (w ≠ 60 → e < B 18 1) → (w = 60 → e = -1) → inI t1 → e < t1 → JC V (9 * w + e + 1).toNat s → wp (m_X9_choose0_68 (a : Int) (b : Int) w e e t1 (B 6) (B 7) (B 8) (B 11) (B 12) (B 18 0) (B 18 1) gu ba (B 14) (B 15) nn (B 17) tb rest ah pF pT s.1 s.2.1 s.2.2.1 s.2.2.2) (fun u => u.1 = 0 ∧ u.2.1 = e + 1 ∧ JC V ((9 * w + e + 1).toNat + 1) u.2.2) := by
    intro w e t1 s hw he he2 hwe ht1 het hJ
    obtain ⟨E, eE⟩ : ∃ E : Nat, (9 * w + e + 1) = E := ⟨(9 * w + e + 1).toNat, by omega⟩
    have eE2 : (9 * w + e + 1).toNat = E := by omega
    rw [eE2] at hJ ⊢
    have hsame : (∀ v, ¬ V E v) → JC V (E + 1) s := fun hno => hJ.skip (by omega) (fun i g1 g2 v => by rw [show i = E by omega]; exact hno v)
    have hno : ¬ EV B E → ∀ v, ¬ V E v := fun h v hv => h (hVE _ _ hv)
    unfold m_X9_choose0_68
    refine wp_gd (by omega) (wp_gd ht1 (wp_if (fun c0 => absurd c0 (by omega)) (fun _ => ?_)))
    refine wp_bind (q_rcost hB hW hn hT hab hbn hw ⟨he.1, by by_cases h : w = 60 <;> omega⟩ hwe rfl rfl eg eb) ?_
    intro c hc
    rw [eE] at hc
    have hk := q_rkind (K := B 6) (w := w) (e := e) (by omega) he hwe
    rw [eE] at hk
    have hkb : 0 ≤ kd (B 6) E ∧ kd (B 6) E ≤ 8 := by
      unfold kd
      by_cases h : (E : Int) = 540
      · rw [if_pos h]
        omega
      · rw [if_neg h]
        have hw2 : w ≠ 60 := by
          intro z
          have := hwe z
          omega
        have := (hW.2.2.1 ((E : Int) / 9).toNat (by omega)).2.2.1
        omega
    obtain ⟨K, eK⟩ : ∃ K : Nat, kd (B 6) E = K := ⟨(kd (B 6) E).toNat, by omega⟩
    have eKn : (kd (B 6) E).toNat = K := by omega
    rw [eK] at hk
    refine wp_eq hk (wp_bind (q_leastAhead hB hS hn (a := a) (by omega) hA.1 rfl (k := (K : Int)) (by omega)) ?_)
    rintro l ⟨l1, l2⟩
    have hlL : l = La K := by
      rcases l1.two (hLa K (by omega)) with ⟨z1, z2⟩ | ⟨z, _⟩
      · omega
      · exact z
    have et : (10 * (b : Int) + (K : Int)).toNat = 10 * b + K := by omega
    refine wp_eq hk (wp_eq (show m_X9_at (b : Int) (K : Int) = some (10 * (b : Int) + (K : Int)) from rfl) ?_)
    rw [et]
    have hrI := hR.2.1.2 (10 * b + K)
    refine wp_gd (by omega) (wp_vl ?_)
    have hlI : inI l := by
      by_cases h : l < 134217728
      · have := l2 h
        omega
      · rcases l1 with ⟨z, _⟩ | ⟨z, _⟩ <;> omega
    by_cases hev : EV B E
    · have hcl := hc.1 hev
      have hcI : inI c := by
        rcases hcl with ⟨h1, _⟩ | ⟨h1, h2, _⟩
        · omega
        · have := CL_bd hB hW hev h2
          omega
      refine wp_gd hcI (wp_if (fun c1 => ?_) (fun c1 => ?_))
      · refine wp_vl (wp_some ⟨rfl, rfl, hsame ?_⟩)
        intro v hv
        rw [eV] at hv
        obtain ⟨_, c', h1, _⟩ := hv
        have := (hcl.le h1.1).2
        omega
      · refine wp_gd hlI (wp_if (fun c2 => ?_) (fun c2 => ?_))
        · refine wp_vl (wp_some ⟨rfl, rfl, hsame ?_⟩)
          intro v hv
          rw [eV] at hv
          obtain ⟨_, c', _, h2, _⟩ := hv
          rw [eKn] at h2
          omega
        · refine wp_gd hrI (wp_if (fun c3 => ?_) (fun c3 => ?_))
          · refine wp_vl (wp_some ⟨rfl, rfl, hsame ?_⟩)
            intro v hv
            rw [eV] at hv
            obtain ⟨_, c', _, _, h3, _⟩ := hv
            have h3 : rest (10 * b + (kd (B 6) E).toNat) < 134217728 := h3
            rw [eKn] at h3
            omega
          · refine wp_bind (q_isLet hB hn hab hbn rfl rfl en) ?_
            intro r hr
            have hr1 : r = 1 := by
              rcases hr with ⟨z, _⟩ | ⟨_, z⟩
              · exact z
              · exact absurd hlt z
            refine wp_gd (by omega) (wp_if (fun z => absurd z (by omega)) (fun _ => ?_))
            have hmem := hcl.mem (by omega)
            have hcb := CL_bd hB hW hev hmem
            have hlb := l2 (by omega)
            have hrb := hR.2.1.1 b K (by omega) hbn (by omega) (by omega)
            obtain ⟨⟨len, j1, j2, j3, j4⟩, j5⟩ := hJ
            refine wp_bind (q_put j2 j5 (w := w) (e := e) (v := c + l + rest (10 * b + K)) (by omega) j1) ?_
            rintro ⟨W2, E2, C2, ch2⟩ ⟨len', g1, g2, g3, g4, g5⟩
            rw [eE] at g3
            refine wp_vl (wp_some ⟨rfl, rfl, ⟨len', g1, g2, j3.put g2 (Or.inl ⟨c + l + rest (10 * b + K), ?_, g3⟩) j2, fun i hi => ?_⟩, g4⟩)
            · rw [eV]
              refine ⟨hev, c, ⟨hmem, fun x hx => (hcl.le hx).1⟩, ?_, ?_, ?_⟩
              · rw [eKn]
                omega
              · show rest (10 * b + (kd (B 6) E).toNat) < 134217728
                rw [eKn]
                omega
              · show c + l + rest (10 * b + K) = La (kd (B 6) E).toNat + c + rest (10 * b + (kd (B 6) E).toNat)
                rw [eKn]
                omega
            · show (0 ≤ W2 i ∧ W2 i ≤ 60) ∧ (-1 ≤ E2 i ∧ E2 i < 8) ∧ (W2 i = 60 → E2 i = -1)
              rcases g5 i hi with ⟨z1, z2⟩ | ⟨jj, z1, z2, z3⟩
              · have z1 : W2 i = w := z1
                have z2 : E2 i = e := z2
                rw [z1, z2]
                omega
              · have z2 : W2 i = s.1 jj := z2
                have z3 : E2 i = s.2.1 jj := z3
                rw [z2, z3]
                exact j4 jj z1
    · have hcN := hc.2 hev
      refine wp_gd (by omega) (wp_if (fun c1 => ?_) (fun c1 => absurd (by omega) c1))
      exact wp_vl (wp_some ⟨rfl, rfl, hsame (hno hev)⟩)
  -- each entry of a word
  have h48 : ∀ (w : Nat) (x3 : Int) (s : st4), (((w : Int) < B 18 0) ∨ w = 60) → x3 = w → JC V (9 * w) s → wp (m_X9_choose0_48 (a : Int) (b : Int) x3 (B 6) (B 7) (B 8) (B 11) (B 12) (B 18 0) (B 18 1) gu ba (B 14) (B 15) nn (B 17) tb rest ah pF pT s.1 s.2.1 s.2.2.1 s.2.2.2) (fun u => u.1 = 0 ∧ u.2.1 = ((w + 1 : Nat) : Int) ∧ JC V (if w + 1 = 61 then 541 else 9 * (w + 1)) u.2.2) := by
    intro w x3 s hw e3 hs
    obtain ⟨Ne, eNe⟩ : ∃ Ne : Nat, (w = 60 ∧ Ne = 1) ∨ (w ≠ 60 ∧ (Ne : Int) = B 18 1 + 1) := by
      by_cases h : w = 60
      · exact ⟨1, Or.inl ⟨h, rfl⟩⟩
      · exact ⟨(B 18 1 + 1).toNat, Or.inr ⟨h, by omega⟩⟩
    unfold m_X9_choose0_48
    refine wp_bind (P := fun u : Nat × Int × st4 => JC V (if w + 1 = 61 then 541 else 9 * (w + 1)) u.2.2) (wp_loop (fun j y => y.1 = -1 + (j : Int) ∧ JC V (9 * w + j) y.2) Ne (by omega) ⟨rfl, hs⟩ ?_) ?_
    · intro j y hj hst
      obtain ⟨a1, a2⟩ := hst
      have h68 : ∀ t1 : Int, ((w = 60 ∧ t1 = 0) ∨ (w ≠ 60 ∧ t1 = B 18 1)) → wp (m_X9_choose0_68 (a : Int) (b : Int) x3 y.1 y.1 t1 (B 6) (B 7) (B 8) (B 11) (B 12) (B 18 0) (B 18 1) gu ba (B 14) (B 15) nn (B 17) tb rest ah pF pT y.2.1 y.2.2.1 y.2.2.2.1 y.2.2.2.2) (fun u : Nat × Int × st4 => (u.1 = 0 → j < Ne ∧ u.2.1 = -1 + ((j + 1 : Nat) : Int) ∧ JC V (9 * w + (j + 1)) u.2.2) ∧ (u.1 ≠ 0 → JC V (if w + 1 = 61 then 541 else 9 * (w + 1)) u.2.2)) := by
        intro t1 ht1
        by_cases hdone : j = Ne
        · unfold m_X9_choose0_68
          refine wp_gd (by omega) (wp_gd (by omega) (wp_if (fun c1 => ?_) (fun c1 => absurd (by omega) c1)))
          refine wp_some ⟨fun z => absurd z Nat.one_ne_zero, fun _ => ?_⟩
          show JC V _ y.2
          by_cases h60 : w = 60
          · rw [if_pos (by omega)]
            have : 9 * w + j = 541 := by omega
            rw [this] at a2
            exact a2
          · rw [if_neg (by omega)]
            refine a2.skip (by omega) (fun z z1 z2 v hz => ?_)
            rcases hVE z v hz with hz | ⟨_, _, _, hz⟩
            · omega
            · omega
        · have ej : (9 * x3 + y.1 + 1).toNat = 9 * w + j := by omega
          refine wp_mono (hstep x3 y.1 t1 y.2 (by omega) (by omega) (by omega) (by omega) (by omega) (by omega) (by rw [ej]; exact a2)) ?_
          rintro u ⟨u1, u2, u3⟩
          rw [ej] at u3
          exact ⟨fun _ => ⟨by omega, by omega, u3⟩, fun z => absurd u1 z⟩
      unfold m_X9_choose0_51
      refine wp_gd (by omega) (wp_if (fun c1 => ?_) (fun c1 => ?_))
      · exact h68 0 (Or.inl ⟨by omega, rfl⟩)
      · exact h68 (B 18 1) (Or.inr ⟨by omega, rfl⟩)
    · rintro ⟨t51, y5, r1, r2, r3, r4⟩ hu
      exact wp_vl (wp_some ⟨rfl, by show x3 + 1 = _; omega, hu⟩)
  have hJ0 : JC V 0 (cW, cE, cC, 0) := ⟨⟨0, rfl, by omega, ⟨fun _ => (0, pent cW cE, cC), rfl, fun i h => absurd h (by omega), oEq.rfl', fun i _ => by show 0 ≤ 12; omega⟩, fun i h => absurd h (by omega)⟩, hC⟩
  unfold m_X9_choose0
  rw [ea, ebb]
  refine wp_gd hx (wp_vl (wp_gd hx (wp_vl (wp_bind (P := fun u : Nat × Int × st4 => JC V 541 u.2.2) (wp_loop (fun k y => y.1 = (k : Int) ∧ JC V (if k = 61 then 541 else 9 * k) y.2) 61 (by omega) ⟨rfl, hJ0⟩ ?_) ?_))))
  · intro k y hk hs
    obtain ⟨a1, a2⟩ := hs
    unfold m_X9_choose0_22
    refine wp_gd (by omega) (wp_if (fun c1 => ?_) (fun c1 => ?_))
    · refine wp_end (by decide) ?_
      rw [if_pos (by omega)] at a2
      exact a2
    · rw [if_neg (by omega)] at a2
      refine wp_gd (by omega) (wp_if (fun c2 => ?_) (fun c2 => ?_))
      · refine wp_mono (h48 k y.1 y.2 (Or.inl (by omega)) a1 a2) ?_
        rintro u ⟨u1, u2, u3⟩
        exact ⟨fun _ => ⟨by omega, u2, u3⟩, fun z => absurd u1 z⟩
      · refine wp_if (fun c3 => ?_) (fun c3 => ?_)
        · refine wp_mono (h48 k y.1 y.2 (Or.inr (by omega)) a1 a2) ?_
          rintro u ⟨u1, u2, u3⟩
          exact ⟨fun _ => ⟨by omega, u2, u3⟩, fun z => absurd u1 z⟩
        · refine wp_vl (wp_go ⟨by omega, by show y.1 + 1 = _; omega, ?_⟩)
          rw [if_neg (by omega)]
          refine a2.skip (by omega) (fun z z1 z2 v hz => ?_)
          rcases hVE z v hz with hz | ⟨_, _, hz, _⟩
          · omega
          · omega
  · rintro ⟨t22, y4, r1, r2, r3, r4⟩ hu
    exact wp_some hu
