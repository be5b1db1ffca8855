/-! the reference: readAhead, whole -/
/-- the costs ahead stand -/
def AHD (B : Nat → Nat → Int) (t : Nat → Int) (n : Nat) (ah : Nat → Int) : Prop := AB n ah ∧ ah 9 = 0 ∧ (∀ k, k ≤ 8 → ah k = 134217728) ∧ (∀ b, 1 ≤ b → b ≤ n → ah (10 * b + 9) = 134217728) ∧ ∀ b k : Nat, 1 ≤ b → b ≤ n → k ≤ 8 → Lst (fun x => ∃ (a e : Nat) (c y : Int), PC B t n a b e c ∧ kd (B 6) e = k ∧ fwd B ah a k y ∧ x = y + c) 134217728 (ah (10 * b + k))
set_option maxHeartbeats 4000000 in
theorem q_aheadFrom {B : Nat → Nat → Int} {t : Nat → Int} (hB : GB B) (hW : GW B) (hS : GS B) {n fm a : Nat} (hn : n ≤ 36) (ha : a < n) {fF fT fW fE tb ah0 : Nat → Int} (hT : TBL B t n (540 * n) tb) (hF : FX B n fm fF fT fW fE) (hFi : ∀ i, inI (fF i) ∧ inI (fT i) ∧ inI (fW i) ∧ inI (fE i)) {x1 gu ba nn mm : Int} (e1 : x1 = a) (eg : gu = B 13 1) (eb : ba = B 13 2) (en : nn = n) (em : mm = fm) (h0 : JA B t n a ah0 0 (a + 1) ah0) :
    wp (zloop (fun y => m_X9_readAhead_68 x1 y.1 (B 6) (B 7) (B 8) (B 11) (B 12) (B 18 0) (B 18 1) gu ba (B 14) (B 15) nn mm (B 17) fF fT fW fE tb y.2) FU (0, ah0)) (fun u => JA B t n a ah0 541 (a + 1) u.2.2) := by
  have hW0 := hW.1
  have hE0 := hW.2.1
  have hnext : ∀ (ent : Nat) (ah : Nat → Int), JA B t n a ah0 ent (n + 1) ah → JA B t n a ah0 (ent + 1) (a + 1) ah := by
    rintro ent ah ⟨j1, j2, j3, j4⟩
    refine ⟨j1, j2, j3, fun b k h1 h2 h3 => (j4 b k h1 h2 h3).iff (fun x => ?_)⟩
    constructor
    · rintro ⟨a', e, c, y, g1, g2, g3⟩
      have g4 := g2.1
      refine ⟨a', e, c, y, ?_, g2, g3⟩
      unfold bfr at g1 ⊢
      omega
    · rintro ⟨a', e, c, y, g1, g2, g3⟩
      have g4 := g2.1
      refine ⟨a', e, c, y, ?_, g2, g3⟩
      unfold bfr at g1 ⊢
      omega
  have hskip : ∀ (ent ent' : Nat) (ah : Nat → Int), ent ≤ ent' → (∀ z : Nat, ent ≤ z → z < ent' → ¬ EV B z) → JA B t n a ah0 ent (a + 1) ah → JA B t n a ah0 ent' (a + 1) ah := by
    rintro ent ent' ah hle hno ⟨j1, j2, j3, j4⟩
    refine ⟨j1, j2, j3, fun b k h1 h2 h3 => (j4 b k h1 h2 h3).iff (fun x => ?_)⟩
    constructor
    · rintro ⟨a', e, c, y, g1, g2, g3⟩
      have g4 := g2.1
      refine ⟨a', e, c, y, ?_, g2, g3⟩
      rcases g1 with g1 | ⟨g1, g5⟩
      · exact Or.inl g1
      · refine Or.inr ⟨g1, ?_⟩
        by_cases h4 : e < ent
        · exact Or.inl h4
        · by_cases h5 : e < ent'
          · exact absurd g2.2.1 (hno e (by omega) h5)
          · unfold bfr at g5 ⊢
            omega
    · rintro ⟨a', e, c, y, g1, g2, g3⟩
      have g4 := g2.1
      refine ⟨a', e, c, y, ?_, g2, g3⟩
      unfold bfr at g1 ⊢
      omega
  have h91 : ∀ (w : Nat) (x3 : Int) (s : Nat → Int), (((w : Int) < B 18 0) ∨ w = 60) → x3 = w → JA B t n a ah0 (9 * w) (a + 1) s → wp (m_X9_readAhead_91 x1 x3 (B 6) (B 7) (B 8) (B 11) (B 12) (B 18 0) (B 18 1) gu ba (B 14) (B 15) nn mm (B 17) fF fT fW fE tb s) (fun u => u.1 = 0 ∧ u.2.1 = ((w + 1 : Nat) : Int) ∧ JA B t n a ah0 (if w + 1 = 61 then 541 else 9 * (w + 1)) (a + 1) u.2.2) := by
    intro w x3 s hw e3 hs
    obtain ⟨Ne, eNe⟩ : ∃ Ne : Nat, (w = 60 ∧ Ne = 1) ∨ (w ≠ 60 ∧ (Ne : Int) = B 18 1 + 1) := by
      by_cases h : w = 60
      · exact ⟨1, Or.inl ⟨h, rfl⟩⟩
      · exact ⟨(B 18 1 + 1).toNat, Or.inr ⟨h, by omega⟩⟩
    unfold m_X9_readAhead_91
    refine wp_bind (P := fun u : Nat × Int × (Nat → Int) => JA B t n a ah0 (if w + 1 = 61 then 541 else 9 * (w + 1)) (a + 1) u.2.2) (wp_loop (fun j y => y.1 = -1 + (j : Int) ∧ JA B t n a ah0 (9 * w + j) (a + 1) y.2) Ne (by omega) ⟨rfl, hs⟩ ?_) ?_
    · intro j y hj hst
      obtain ⟨a1, a2⟩ := hst
      have h108 : ∀ t1 : Int, ((w = 60 ∧ t1 = 0) ∨ (w ≠ 60 ∧ t1 = B 18 1)) → wp (m_X9_readAhead_108 x1 x3 y.1 y.1 t1 (B 6) (B 7) (B 8) (B 11) (B 12) (B 18 0) (B 18 1) gu ba (B 14) (B 15) nn mm (B 17) fF fT fW fE tb y.2) (fun u : Nat × Int × (Nat → Int) => (u.1 = 0 → j < Ne ∧ u.2.1 = -1 + ((j + 1 : Nat) : Int) ∧ JA B t n a ah0 (9 * w + (j + 1)) (a + 1) u.2.2) ∧ (u.1 ≠ 0 → JA B t n a ah0 (if w + 1 = 61 then 541 else 9 * (w + 1)) (a + 1) u.2.2)) := by
        intro t1 ht1
        unfold m_X9_readAhead_108
        refine wp_gd (by omega) (wp_gd (by omega) (wp_if (fun c1 => ?_) (fun c1 => ?_)))
        · refine wp_some ⟨fun z => absurd z Nat.one_ne_zero, fun _ => ?_⟩
          show JA B t n a ah0 _ (a + 1) y.2
          by_cases h60 : w = 60
          · rw [if_pos (by omega)]
            have : 9 * w + j = 541 := by omega
            rw [this] at a2
            exact a2
          · rw [if_neg (by omega)]
            refine hskip _ _ _ (by omega) (fun z z1 z2 hz => ?_) a2
            rcases hz with hz | ⟨_, _, _, hz⟩
            · omega
            · omega
        · refine wp_vl (wp_bind (P := fun u : Nat × Int × (Nat → Int) => JA B t n a ah0 (9 * w + j) (n + 1) u.2.2) (wp_loop (fun i d => d.1 = ((a + 1 + i : Nat) : Int) ∧ JA B t n a ah0 (9 * w + j) (a + 1 + i) d.2) (n - a) (by omega) ⟨by show x1 + 1 = _; omega, a2⟩ ?_) ?_)
          · intro i d hi hsd
            obtain ⟨d1, d2⟩ := hsd
            unfold m_X9_readAhead_116
            refine wp_gd (by omega) (wp_gd (by omega) (wp_if (fun c2 => ?_) (fun c2 => ?_)))
            · refine wp_end (by decide) ?_
              show JA B t n a ah0 (9 * w + j) (n + 1) d.2
              rw [show n + 1 = a + 1 + i by omega]
              exact d2
            · have ej : (9 * x3 + y.1 + 1).toNat = 9 * w + j := by omega
              have h9 := q_goAhead hB hW hS hn (a := a) (b := a + 1 + i) (by omega) (by omega) hT hF hFi (w := x3) (e := y.1) (ah0 := ah0) (ah := d.2) (by omega) (by omega) (by omega) (by omega) e1 d1 eg eb en em (by rw [ej]; exact d2)
              rw [ej] at h9
              refine wp_bind h9 ?_
              intro u hu
              exact wp_vl (wp_go ⟨by omega, by show d.1 + 1 = _; omega, hu⟩)
          · rintro ⟨t52, y5, r1⟩ hu
            have hu := hnext _ _ hu
            exact wp_vl (wp_some ⟨fun _ => ⟨by omega, by show y.1 + 1 = _; omega, hu⟩, fun z => absurd rfl z⟩)
      unfold m_X9_readAhead_93
      refine wp_gd (by omega) (wp_if (fun c1 => ?_) (fun c1 => ?_))
      · exact h108 0 (Or.inl ⟨by omega, rfl⟩)
      · exact h108 (B 18 1) (Or.inr ⟨by omega, rfl⟩)
    · rintro ⟨t28, y4, r1⟩ hu
      exact wp_vl (wp_some ⟨rfl, by show x3 + 1 = _; omega, hu⟩)
  refine wp_loop (fun k y => y.1 = (k : Int) ∧ JA B t n a ah0 (if k = 61 then 541 else 9 * k) (a + 1) y.2) 61 (by omega) ⟨rfl, h0⟩ ?_
  intro k y hk hs
  obtain ⟨a1, a2⟩ := hs
  unfold m_X9_readAhead_68
  refine wp_gd (by omega) (wp_if (fun c1 => ?_) (fun c1 => ?_))
  · refine wp_end (by decide) ?_
    rw [if_pos (by omega)] at a2
    exact a2
  · rw [if_neg (by omega)] at a2
    refine wp_gd (by omega) (wp_if (fun c2 => ?_) (fun c2 => ?_))
    · refine wp_mono (h91 k y.1 y.2 (Or.inl (by omega)) a1 a2) ?_
      rintro u ⟨u1, u2, u3⟩
      exact ⟨fun _ => ⟨by omega, u2, u3⟩, fun z => absurd u1 z⟩
    · refine wp_if (fun c3 => ?_) (fun c3 => ?_)
      · refine wp_mono (h91 k y.1 y.2 (Or.inr (by omega)) a1 a2) ?_
        rintro u ⟨u1, u2, u3⟩
        exact ⟨fun _ => ⟨by omega, u2, u3⟩, fun z => absurd u1 z⟩
      · refine wp_vl (wp_go ⟨by omega, by show y.1 + 1 = _; omega, ?_⟩)
        rw [if_neg (by omega)]
        refine hskip _ _ _ (by omega) (fun z z1 z2 hz => ?_) a2
        rcases hz with hz | ⟨_, _, hz, _⟩
        · omega
        · omega
set_option maxHeartbeats 2000000 in
theorem q_readAhead {B : Nat → Nat → Int} {t : Nat → Int} (hB : GB B) (hW : GW B) (hS : GS B) {n fm : Nat} (hn : n ≤ 36) {fF fT fW fE tb ah : Nat → Int} (hT : TBL B t n (540 * n) tb) (hF : FX B n fm fF fT fW fE) (hFi : ∀ i, inI (fF i) ∧ inI (fT i) ∧ inI (fW i) ∧ inI (fE i)) (hA : ∀ i, inI (ah i)) {gu ba nn mm : Int} (eg : gu = B 13 1) (eb : ba = B 13 2) (en : nn = n) (em : mm = fm) :
    wp (m_X9_readAhead (B 6) (B 7) (B 8) (B 11) (B 12) (B 18 0) (B 18 1) gu ba (B 14) (B 15) nn mm (B 17) fF fT fW fE tb ah) (fun u => AHD B t n u) := by
  unfold m_X9_readAhead
  refine wp_bind (P := fun u : Nat × Int × (Nat → Int) => (∀ i, i < 10 * (n + 1) → u.2.2 i = if i = 9 then 0 else 134217728) ∧ ∀ i, inI (u.2.2 i)) (wp_loop (fun a y => y.1 = (a : Int) ∧ (∀ i, i < 10 * a → y.2 i = if i = 9 then 0 else 134217728) ∧ ∀ i, inI (y.2 i)) (n + 1) (by omega) ⟨rfl, fun i h => absurd h (by omega), hA⟩ ?_) ?_
  · intro a y ha hs
    obtain ⟨a1, a2, a3⟩ := hs
    unfold m_X9_readAhead_2
    refine wp_gd (by omega) (wp_gd (by omega) (wp_if (fun c1 => ?_) (fun c1 => ?_)))
    · refine wp_end (by decide) ⟨?_, a3⟩
      rw [show n + 1 = a by omega]
      exact a2
    · refine wp_bind (P := fun u : Nat × Int × (Nat → Int) => (∀ i, i < 10 * (a + 1) → u.2.2 i = if i = 9 then 0 else 134217728) ∧ ∀ i, inI (u.2.2 i)) (wp_loop (fun k d => d.1 = (k : Int) ∧ (∀ i, i < 10 * a + k → d.2 i = if i = 9 then 0 else 134217728) ∧ ∀ i, inI (d.2 i)) 10 (by omega) ⟨rfl, fun i h => a2 i (by omega), a3⟩ ?_) ?_
      · intro k d hk hsd
        obtain ⟨d1, d2, d3⟩ := hsd
        unfold m_X9_readAhead_12
        refine wp_gd (by omega) (wp_if (fun c2 => ?_) (fun c2 => ?_))
        · exact wp_end (by decide) ⟨fun i hi => d2 i (by omega), d3⟩
        · have et : (10 * y.1 + d.1).toNat = 10 * a + k := by omega
          have hset : ∀ v : Int, (v = if 10 * a + k = 9 then 0 else 134217728) → ∀ i, i < 10 * a + (k + 1) → uz d.2 (10 * a + k) v i = if i = 9 then 0 else 134217728 := by
            intro v hv i hi
            by_cases hii : i = 10 * a + k
            · rw [hii, uz_at, hv]
            · rw [uz_ne _ _ hii]
              exact d2 i (by omega)
          refine wp_eq (show m_X9_at y.1 d.1 = some (10 * y.1 + d.1) from rfl) ?_
          rw [et]
          refine wp_gd (by omega) (wp_if (fun c3 => ?_) (fun c3 => ?_))
          · refine wp_if (fun c4 => ?_) (fun c4 => ?_)
            · exact wp_gd (by omega) (wp_vl (wp_vl (wp_go ⟨by omega, by show d.1 + 1 = _; omega, hset _ (by rw [if_pos (by omega)]), uz_inI d3 (by decide)⟩)))
            · exact wp_gd (by omega) (wp_vl (wp_vl (wp_go ⟨by omega, by show d.1 + 1 = _; omega, hset _ (by rw [if_neg (by omega)]), uz_inI d3 (by decide)⟩)))
          · exact wp_gd (by omega) (wp_vl (wp_vl (wp_go ⟨by omega, by show d.1 + 1 = _; omega, hset _ (by rw [if_neg (by omega)]), uz_inI d3 (by decide)⟩)))
      · rintro ⟨t12, y2, ah2⟩ hu
        exact wp_vl (wp_go ⟨by omega, by show y.1 + 1 = _; omega, hu.1, hu.2⟩)
  · rintro ⟨t2, y1, ah1⟩ ⟨g1, g2⟩
    have g1 : ∀ i, i < 10 * (n + 1) → ah1 i = if i = 9 then 0 else 134217728 := g1
    have g2 : ∀ i, inI (ah1 i) := g2
    have gN : ∀ i, i < 10 * (n + 1) → i ≠ 9 → ah1 i = 134217728 := fun i h1 h2 => by rw [g1 i h1, if_neg h2]
    have g9 : ah1 9 = 0 := by rw [g1 9 (by omega), if_pos rfl]
    refine wp_bind (P := fun u : Nat × Int × (Nat → Int) => AHD B t n u.2.2) (wp_loop (fun a y => y.1 = (a : Int) ∧ (∀ i, i < 10 → y.2 i = ah1 i) ∧ JA B t n a y.2 0 (a + 1) y.2) n (by omega) ⟨rfl, fun i _ => rfl, ⟨fun i _ => rfl, ⟨fun b k h1 h2 h3 => ?_, g2⟩, fun b h1 h2 => gN _ (by omega) (by omega), fun b k h1 h2 h3 => ?_⟩⟩ ?_) ?_
    · by_cases hz : 10 * b + k = 9
      · show -(4000 * (b : Int)) ≤ ah1 (10 * b + k) ∧ ah1 (10 * b + k) ≤ 4000 * (b : Int)
        rw [hz, g9]
        omega
      · have := gN (10 * b + k) (by omega) hz
        have h3 : ah1 (10 * b + k) < 134217728 := h3
        omega
    · show Lst _ 134217728 (ah1 (10 * b + k))
      rw [gN _ (by omega) (by omega)]
      refine Lst.none ?_
      rintro x ⟨a', e, c, y, h4, h5, _⟩
      have := h5.1
      unfold bfr at h4
      omega
    · intro a y ha hs
      obtain ⟨a1, a2, a3⟩ := hs
      unfold m_X9_readAhead_58
      refine wp_gd (by omega) (wp_gd (by omega) (wp_if (fun c1 => ?_) (fun c1 => ?_)))
      · have han : a = n := by omega
        subst han
        obtain ⟨j1, j2, j3, j4⟩ := a3
        refine wp_end (by decide) ⟨j2, ?_, fun k hk => ?_, j3, fun b k h1 h2 h3 => (j4 b k h1 h2 h3).iff (fun x => ?_)⟩
        · show y.2 9 = 0
          rw [a2 9 (by omega)]
          exact g9
        · show y.2 k = 134217728
          rw [a2 k (by omega)]
          exact gN k (by omega) (by omega)
        · constructor
          · rintro ⟨a', e, c, z, g3, g4⟩
            have := g3.1
            exact ⟨a', e, c, z, Or.inl (by omega), g3, g4⟩
          · rintro ⟨a', e, c, z, _, g3⟩
            exact ⟨a', e, c, z, g3⟩
      · refine wp_bind (q_aheadFrom hB hW hS hn (a := a) (by omega) hT hF hFi a1 eg eb en em a3) ?_
        rintro ⟨t68, y2, ah2⟩ ⟨j1, j2, j3, j4⟩
        have j1 : ∀ i, i < 10 * (a + 1) → ah2 i = y.2 i := j1
        refine wp_vl (wp_go ⟨by omega, by show y.1 + 1 = _; omega, fun i hi => (j1 i (by omega)).trans (a2 i hi), fun i _ => rfl, j2, j3, fun b k h1 h2 h3 => (j4 b k h1 h2 h3).iff (fun x => ?_)⟩)
        constructor
        · rintro ⟨a', e, c, z, g3, g4, g5, g6, g7⟩
          have g8 := g4.1
          have he : e ≤ 540 := by rcases g4.2.1 with z | z <;> omega
          have hle : a' ≤ a := by
            unfold bfr at g3
            omega
          refine ⟨a', e, c, z, ?_, g4, g5, (fwd_eq (fun k' hk' => j1 _ (by omega))).mp g6, g7⟩
          by_cases haa : a' < a
          · exact Or.inl haa
          · exact Or.inr ⟨by omega, Or.inl (by omega)⟩
        · rintro ⟨a', e, c, z, g3, g4, g5, g6, g7⟩
          have g8 := g4.1
          have hle : a' ≤ a := by omega
          exact ⟨a', e, c, z, Or.inl (by omega), g4, g5, (fwd_eq (fun k' hk' => j1 _ (by omega))).mpr g6, g7⟩
    · rintro ⟨t58, y1', ah2⟩ hu
      exact wp_some hu
