/-! the reference's table, whole -/
theorem TO_congr {B : Nat → Nat → Int} {t : Nat → Int} {n a : Nat} {ss : List Nat} {f g : Nat → Int} (h : TO B t n a ss f) (e : ∀ k, k ≤ 36 → g k = f k) : TO B t n a ss g := by
  intro k hk
  rw [e k hk]
  exact h k hk
theorem TO_start {B : Nat → Nat → Int} {t : Nat → Int} {n a : Nat} {f : Nat → Int} (ha : a ≤ n) (h0 : f 0 = 0) (h1 : ∀ k, 0 < k → k ≤ 36 → f k = 134217728) : TO B t n a [] f := by
  intro k hk
  rcases Nat.eq_zero_or_pos k with h | h
  · subst h
    rw [h0]
    refine ⟨fun _ => Or.inr ⟨by decide, ⟨rfl, rfl⟩, fun x hx => ?_⟩, fun z => ?_⟩
    · have := hx.2
      omega
    · omega
  · rw [h1 k h hk]
    exact ⟨fun _ => Lst.none (fun x hx => by have := hx.1; omega), fun _ => rfl⟩
/-- the table's rows up to a number stand -/
def TBL (B : Nat → Nat → Int) (t : Nat → Int) (n cur : Nat) (tb : Nat → Int) : Prop := (∀ (a e : Nat), e < 540 → a < n → 540 * a + e < cur → EV B e → TO B t n a (sds B e) (fun k => tb (37 * (540 * a + e) + k))) ∧ ∀ i, inI (tb i)
theorem TBL.skip {B : Nat → Nat → Int} {t : Nat → Int} {n cur cur' : Nat} {tb : Nat → Int} (h : TBL B t n cur tb) (hs : ∀ (a e : Nat), e < 540 → a < n → cur ≤ 540 * a + e → 540 * a + e < cur' → ¬ EV B e) : TBL B t n cur' tb := by
  refine ⟨fun a e h1 h2 h3 h4 => ?_, h.2⟩
  by_cases hc : 540 * a + e < cur
  · exact h.1 a e h1 h2 hc h4
  · exact absurd h4 (hs a e h1 h2 (by omega) h3)
theorem TBL.row {B : Nat → Nat → Int} {t : Nat → Int} {n a e : Nat} {tb re : Nat → Int} (h : TBL B t n (540 * a + e) tb) (he : e < 540) (hR : ∀ i, inI (re i)) (hT : TO B t n a (sds B e) re) : TBL B t n (540 * a + e + 1) (zcp re tb 0 (37 * (540 * a + e)) 37) := by
  have hin : ∀ k, k ≤ 36 → zcp re tb 0 (37 * (540 * a + e)) 37 (37 * (540 * a + e) + k) = re k := by
    intro k hk
    unfold zcp
    rw [if_pos (by omega)]
    congr 1
    omega
  refine ⟨fun a' e' h1 h2 h3 h4 => ?_, fun i => ?_⟩
  · by_cases hc : 540 * a' + e' = 540 * a + e
    · have ha : a' = a := by omega
      have hee : e' = e := by omega
      subst ha
      subst hee
      exact TO_congr hT (fun k hk => hin k hk)
    · refine TO_congr (h.1 a' e' h1 h2 (by omega) h4) (fun k hk => ?_)
      unfold zcp
      rw [if_neg (by omega)]
  · unfold zcp
    by_cases hc : 37 * (540 * a + e) ≤ i ∧ i < 37 * (540 * a + e) + 37
    · rw [if_pos hc]
      exact hR _
    · rw [if_neg hc]
      exact h.2 i
theorem q_keepRow {tb re : Nat → Int} {x1 : Int} {d : Nat} (e1 : x1 = d) (hd : d + 37 ≤ 719280) : m_X9_keepRow x1 tb re = some (zcp re tb 0 d 37) := by
  refine wp_out ?_
  unfold m_X9_keepRow
  refine wp_bind (P := fun u : Nat × Int × (Nat → Int) => u.2.2 = zcp re tb 0 d 37) (wp_loop (fun k b => b.1 = (k : Int) ∧ b.2 = zcp re tb 0 d k) 37 (by omega) ⟨rfl, ?_⟩ ?_) ?_
  · funext i
    unfold zcp
    rw [if_neg (by omega)]
  · intro k b hk hs
    obtain ⟨a1, a2⟩ := hs
    unfold m_X9_keepRow_2
    refine wp_gd (by omega) (wp_if (fun c1 => ?_) (fun c1 => ?_))
    · refine wp_end (by decide) ?_
      show b.2 = _
      rw [a2, show k = 37 by omega]
    · refine wp_gd (by omega) (wp_gd (by omega) (wp_vl (wp_vl (wp_go ⟨by omega, by show b.1 + 1 = _; omega, ?_⟩))))
      show uz b.2 (x1 + b.1).toNat (re b.1.toNat) = _
      rw [a2, show (x1 + b.1).toNat = d + k by omega, show b.1.toNat = k by omega]
      funext i
      unfold uz zcp
      by_cases h1 : i = d + k
      · rw [if_pos h1, if_pos (by omega), h1]
        congr 1
        omega
      · rw [if_neg h1]
        by_cases h2 : d ≤ i ∧ i < d + k
        · rw [if_pos h2, if_pos (by omega)]
        · rw [if_neg h2, if_neg (by omega)]
  · rintro ⟨t2, y, f⟩ hu
    exact wp_some hu
theorem q_cell (a w e : Int) : m_X9_cell a w e = some ((((a * 60 + w) * 9 + e) + 1) * 37) := rfl
set_option maxHeartbeats 2000000 in
theorem q_mkEnd {B : Nat → Nat → Int} {t : Nat → Int} (hB : GB B) (hW : GW B) (ht : ∀ k, inI (t k)) {n a w : Nat} (hn : n ≤ 36) (ha : a < n) (hw : (w : Int) < B 18 0) {tb re ne : Nat → Int} (hT : TBL B t n (540 * a + 9 * w + 1) tb) (hR : ∀ i, inI (re i)) (hX : ∀ i, inI (ne i)) {x1 x2 nn sl : Int} (e1 : x1 = a) (e2 : x2 = w) (en : nn = n) (esl : sl = B 13 0) (wo : Int) :
    wp (zloop (fun b => m_X9_makeTable_104 x1 x2 b.1 (B 0) (B 3) (B 1) (B 4) (B 9) (B 7) (B 11) wo (B 18 1) sl nn t b.2.1 b.2.2.1 b.2.2.2) FU (0, tb, re, ne)) (fun u => TBL B t n (540 * a + 9 * (w + 1)) u.2.2.1 ∧ (∀ i, inI (u.2.2.2.1 i)) ∧ ∀ i, inI (u.2.2.2.2 i)) := by
  have hW0 := hW.1
  have hE0 := hW.2.1
  obtain ⟨⟨nw, hwr⟩, _, _, hwc⟩ := hW.2.2.1 w hw
  have hsw := siz_of (by decide) hwr
  have hwn := hwr.2.1
  have hev0 : EV B ((9 * w : Nat) : Int) := Or.inr ⟨by omega, by omega, by omega, Or.inl (by omega)⟩
  have hs0 : sds B ((9 * w : Nat) : Int) = pfx (B 4 w) nw := by
    unfold sds esd
    rw [if_pos (by omega), List.append_nil, show (((9 * w : Nat) : Int) / 9).toNat = w by omega, hsw]
  refine wp_loop (fun e b => b.1 = (e : Int) ∧ TBL B t n (540 * a + 9 * w + 1 + e) b.2.1 ∧ (∀ i, inI (b.2.2.1 i)) ∧ ∀ i, inI (b.2.2.2 i)) (B 18 1).toNat (by omega) ⟨rfl, hT, hR, hX⟩ ?_
  intro e b hk hs
  obtain ⟨a1, a2, a3, a4⟩ := hs
  have ee : b.1.toNat = e := by omega
  have ew : x2.toNat = w := by omega
  unfold m_X9_makeTable_104
  refine wp_gd (by omega) (wp_gd (by omega) (wp_if (fun c1 => ?_) (fun c1 => ?_)))
  · refine wp_end (by decide) ⟨?_, a3, a4⟩
    refine a2.skip (fun a' e' h1 h2 h3 h4 hev => ?_)
    have hw' : 540 * a' + e' ≥ 540 * a + 9 * w + 1 + e := h3
    have haa : a' = a := by omega
    subst haa
    rcases hev with z | ⟨z1, z2, z3, z4⟩
    · omega
    · omega
  · rw [ee, ew]
    have heE : (e : Int) < B 18 1 := by omega
    obtain ⟨⟨nv, hvr⟩, _, hvc, hvp⟩ := hW.2.2.2.1 e heE
    have hsv := siz_of (by decide) hvr
    have hvn := hvr.2.1
    refine wp_gd (by omega) (wp_gd (by omega) (wp_gd (by omega) (wp_gd (by omega) (wp_if (fun c2 => ?_) (fun c2 => ?_)))))
    · have hev : EV B ((9 * w + (e + 1) : Nat) : Int) := by
        refine Or.inr ⟨by omega, by omega, by omega, Or.inr ⟨by omega, ?_⟩⟩
        rw [show (((9 * w + (e + 1) : Nat) : Int) % 9 - 1).toNat = e by omega, show (((9 * w + (e + 1) : Nat) : Int) / 9).toNat = w by omega]
        exact c2
      have hs1 : sds B ((9 * w + (e + 1) : Nat) : Int) = pfx (B 4 w) nw ++ pfx (B 9 e) nv := by
        unfold sds esd
        rw [if_neg (by omega), show (((9 * w + (e + 1) : Nat) : Int) / 9).toNat = w by omega, show (((9 * w + (e + 1) : Nat) : Int) % 9 - 1).toNat = e by omega, hsw, hsv]
      have hlt1 := pfx_lt hwr nw (Nat.le_refl nw)
      refine wp_bind (P := fun u : Nat × Int × (Nat → Int) => TO B t n a (pfx (B 4 w) nw) u.2.2 ∧ ∀ i, inI (u.2.2 i)) (wp_loop (fun k d => d.1 = (k : Int) ∧ (∀ j, j < k → d.2 j = b.2.1 (37 * (540 * a + 9 * w) + j)) ∧ ∀ i, inI (d.2 i)) 37 (by omega) ⟨rfl, fun j hj => absurd hj (by omega), a3⟩ ?_) ?_
      · intro k d hk2 hs2
        obtain ⟨d1, d2, d3⟩ := hs2
        unfold m_X9_makeTable_133
        refine wp_gd (by omega) (wp_if (fun c3 => ?_) (fun c3 => ?_))
        · refine wp_end (by decide) ⟨?_, d3⟩
          have h5 := a2.1 a (9 * w) (by omega) ha (by omega) hev0
          rw [hs0] at h5
          exact TO_congr h5 (fun j hj => d2 j (by omega))
        · refine wp_eq (q_cell _ _ _) ?_
          have e8 : ((((x1 * 60 + x2) * 9 + -1) + 1) * 37 + d.1).toNat = 37 * (540 * a + 9 * w) + k := by omega
          refine wp_gd (by omega) (wp_gd (by omega) ?_)
          rw [e8, show d.1.toNat = k by omega]
          refine wp_vl (wp_vl (wp_go ⟨by omega, by show d.1 + 1 = _; omega, fun j hj => ?_, uz_inI d3 (a2.2 _)⟩))
          show uz d.2 k _ j = _
          by_cases hjk : j = k
          · rw [hjk, uz_at]
          · rw [uz_ne _ _ hjk]
            exact d2 j (by omega)
      · rintro ⟨t133, y4, re1⟩ ⟨g1, g2⟩
        have g1 : TO B t n a (pfx (B 4 w) nw) re1 := g1
        have g2 : ∀ i, inI (re1 i) := g2
        refine wp_bind (P := fun u : Nat × Int × (Nat → Int) × (Nat → Int) => TO B t n a (pfx (B 4 w) nw ++ pfx (B 9 e) nv) u.2.2.1 ∧ (∀ i, inI (u.2.2.1 i)) ∧ ∀ i, inI (u.2.2.2 i)) (wp_loop (fun j d => d.1 = (j : Int) ∧ TO B t n a (pfx (B 4 w) nw ++ pfx (B 9 e) j) d.2.1 ∧ (∀ i, inI (d.2.1 i)) ∧ ∀ i, inI (d.2.2 i)) nv (by omega) ⟨rfl, ?_, g2, a4⟩ ?_) ?_
        · show TO B t n a (pfx (B 4 w) nw ++ []) re1
          rw [List.append_nil]
          exact g1
        · intro j d hj hs2
          obtain ⟨d1, d2, d3, d4⟩ := hs2
          unfold m_X9_makeTable_170
          rw [ee]
          refine wp_gd (by omega) (wp_eq (q_sizeOf 6 3 nv (Or.inr (Or.inr (Or.inl ⟨rfl, rfl⟩))) rfl (hW.2.2.2.2 _).2.2 hvr) (wp_gd (by omega) (wp_gd (by omega) (wp_if (fun c3 => ?_) (fun c3 => ?_)))))
          · refine wp_end (by decide) ⟨?_, d3, d4⟩
            rw [show nv = j by omega]
            exact d2
          · have hjn : j < nv := by omega
            have hp := hvr.2.2.2.1 j hjn
            have hlt2 := pfx_lt hvr j (by omega)
            refine wp_gd (by omega) (wp_eq (q_piece 6 j (Or.inr (Or.inl rfl)) rfl d1 (hW.2.2.2.2 _).2.2 (by omega)) ?_)
            refine wp_bind (q_oneSound (s := sn (B 9 e) j) (ss := pfx (B 4 w) nw ++ pfx (B 9 e) j) hB ht hn ha (by unfold sn; omega) (fun s hs => (List.mem_append.mp hs).elim (hlt1 s) (hlt2 s)) (by rw [List.length_append, pfx_len, pfx_len]; omega) d2 d3 d4 e1 (by unfold sn; omega) en esl) ?_
            rintro ⟨re2, ne2⟩ ⟨f1, f2, f3⟩
            refine wp_vl (wp_go ⟨by omega, by show d.1 + 1 = _; omega, ?_, f2, f3⟩)
            rw [List.append_assoc] at f1
            exact f1
        · rintro ⟨t170, y5, re2, ne2⟩ ⟨f1, f2, f3⟩
          have f1 : TO B t n a (pfx (B 4 w) nw ++ pfx (B 9 e) nv) re2 := f1
          refine wp_eq (q_cell _ _ _) (wp_eq (q_keepRow (d := 37 * (540 * a + (9 * w + (e + 1)))) (by omega) (by omega)) ?_)
          refine wp_vl (wp_go ⟨by omega, by show b.1 + 1 = _; omega, ?_, f2, f3⟩)
          have h9 := TBL.row (a := a) (e := 9 * w + (e + 1)) (re := re2) (by rw [show 540 * a + (9 * w + (e + 1)) = 540 * a + 9 * w + 1 + e by omega]; exact a2) (by omega) f2 (by rw [hs1]; exact f1)
          rw [show 540 * a + (9 * w + (e + 1)) + 1 = 540 * a + 9 * w + 1 + (e + 1) by omega] at h9
          exact h9
    · refine wp_vl (wp_go ⟨by omega, by show b.1 + 1 = _; omega, a2.skip (fun a' e' h1 h2 h3 h4 hev => ?_), a3, a4⟩)
      have haa : a' = a := by omega
      have hee : e' = 9 * w + (e + 1) := by omega
      rw [hee] at hev
      rcases hev with z | ⟨z1, z2, z3, z4⟩
      · omega
      · rcases z4 with z4 | ⟨_, z4⟩
        · omega
        · rw [show (((9 * w + (e + 1) : Nat) : Int) % 9 - 1).toNat = e by omega, show (((9 * w + (e + 1) : Nat) : Int) / 9).toNat = w by omega] at z4
          exact c2 z4
set_option maxHeartbeats 2000000 in
theorem q_makeTable {B : Nat → Nat → Int} {t : Nat → Int} (hB : GB B) (hW : GW B) (ht : ∀ k, inI (t k)) {n : Nat} (hn : n ≤ 36) {tb re ne : Nat → Int} (hTb : ∀ i, inI (tb i)) (hR : ∀ i, inI (re i)) (hX : ∀ i, inI (ne i)) {nn sl : Int} (en : nn = n) (esl : sl = B 13 0) :
    wp (m_X9_makeTable (B 0) (B 3) (B 1) (B 4) (B 9) (B 7) (B 11) (B 18 0) (B 18 1) sl nn t tb re ne) (fun u => TBL B t n (540 * n) u.1 ∧ (∀ i, inI (u.2.1 i)) ∧ ∀ i, inI (u.2.2 i)) := by
  have hW0 := hW.1
  unfold m_X9_makeTable
  refine wp_bind (P := fun u : Nat × Int × (Nat → Int) × (Nat → Int) × (Nat → Int) => TBL B t n (540 * n) u.2.2.1 ∧ (∀ i, inI (u.2.2.2.1 i)) ∧ ∀ i, inI (u.2.2.2.2 i)) (wp_loop (fun a b => b.1 = (a : Int) ∧ TBL B t n (540 * a) b.2.1 ∧ (∀ i, inI (b.2.2.1 i)) ∧ ∀ i, inI (b.2.2.2 i)) n (by omega) ⟨rfl, ⟨fun a e _ _ h _ => absurd h (by omega), hTb⟩, hR, hX⟩ ?_) ?_
  · intro a b ha hs
    obtain ⟨a1, a2, a3, a4⟩ := hs
    unfold m_X9_makeTable_2
    refine wp_gd (by omega) (wp_gd (by omega) (wp_if (fun c1 => ?_) (fun c1 => ?_)))
    · refine wp_end (by decide) ⟨?_, a3, a4⟩
      rw [show n = a by omega]
      rw [show n = a by omega] at a2
      exact a2
    · refine wp_bind (P := fun u : Nat × Int × (Nat → Int) × (Nat → Int) × (Nat → Int) => TBL B t n (540 * (a + 1)) u.2.2.1 ∧ (∀ i, inI (u.2.2.2.1 i)) ∧ ∀ i, inI (u.2.2.2.2 i)) (wp_loop (fun w d => d.1 = (w : Int) ∧ TBL B t n (540 * a + 9 * w) d.2.1 ∧ (∀ i, inI (d.2.2.1 i)) ∧ ∀ i, inI (d.2.2.2 i)) (B 18 0).toNat (by omega) ⟨rfl, a2, a3, a4⟩ ?_) ?_
      · intro w d hw hs2
        obtain ⟨d1, d2, d3, d4⟩ := hs2
        have ew : d.1.toNat = w := by omega
        unfold m_X9_makeTable_12
        refine wp_gd (by omega) (wp_gd (by omega) (wp_if (fun c2 => ?_) (fun c2 => ?_)))
        · refine wp_end (by decide) ⟨?_, d3, d4⟩
          refine d2.skip (fun a' e' h1 h2 h3 h4 hev => ?_)
          have haa : a' = a := by omega
          subst haa
          rcases hev with z | ⟨z1, z2, z3, z4⟩
          · omega
          · omega
        · have hwW : (w : Int) < B 18 0 := by omega
          obtain ⟨⟨nw, hwr⟩, _, _, hwc⟩ := hW.2.2.1 w hwW
          have hsw := siz_of (by decide) hwr
          have hwn := hwr.2.1
          have hs0 : sds B ((9 * w : Nat) : Int) = pfx (B 4 w) nw := by
            unfold sds esd
            rw [if_pos (by omega), List.append_nil, show (((9 * w : Nat) : Int) / 9).toNat = w by omega, hsw]
          refine wp_bind (P := fun u : Nat × Int × (Nat → Int) => TO B t n a [] u.2.2 ∧ ∀ i, inI (u.2.2 i)) (wp_loop (fun k f => f.1 = (k : Int) ∧ (0 < k → f.2 0 = 0) ∧ (∀ j, 0 < j → j < k → f.2 j = 134217728) ∧ ∀ i, inI (f.2 i)) 37 (by omega) ⟨rfl, fun h => absurd h (by omega), fun j _ h => absurd h (by omega), d3⟩ ?_) ?_
          · intro k f hk hs3
            obtain ⟨f1, f2, f3, f4⟩ := hs3
            unfold m_X9_makeTable_22
            refine wp_gd (by omega) (wp_if (fun c3 => ?_) (fun c3 => ?_))
            · refine wp_end (by decide) ⟨?_, f4⟩
              exact TO_start (by omega) (f2 (by omega)) (fun j h1 h2 => f3 j h1 (by omega))
            · refine wp_if (fun c4 => ?_) (fun c4 => ?_)
              · refine wp_gd (by omega) (wp_vl (wp_vl (wp_go ⟨by omega, by show f.1 + 1 = _; omega, fun _ => ?_, fun j h1 h2 => absurd h2 (by omega), uz_inI f4 (by decide)⟩)))
                show uz f.2 f.1.toNat 0 0 = 0
                rw [show f.1.toNat = 0 by omega, uz_at]
              · refine wp_gd (by omega) (wp_vl (wp_vl (wp_go ⟨by omega, by show f.1 + 1 = _; omega, fun _ => ?_, fun j h1 h2 => ?_, uz_inI f4 (by decide)⟩)))
                · show uz f.2 f.1.toNat 134217728 0 = 0
                  rw [uz_ne _ _ (by omega)]
                  exact f2 (by omega)
                · show uz f.2 f.1.toNat 134217728 j = 134217728
                  by_cases hjk : j = f.1.toNat
                  · rw [hjk, uz_at]
                  · rw [uz_ne _ _ hjk]
                    exact f3 j h1 (by omega)
          · rintro ⟨t22, y3, re1⟩ ⟨g1, g2⟩
            have g1 : TO B t n a [] re1 := g1
            refine wp_bind (P := fun u : Nat × Int × (Nat → Int) × (Nat → Int) => TO B t n a (pfx (B 4 w) nw) u.2.2.1 ∧ (∀ i, inI (u.2.2.1 i)) ∧ ∀ i, inI (u.2.2.2 i)) (wp_loop (fun j f => f.1 = (j : Int) ∧ TO B t n a (pfx (B 4 w) j) f.2.1 ∧ (∀ i, inI (f.2.1 i)) ∧ ∀ i, inI (f.2.2 i)) nw (by omega) ⟨rfl, g1, g2, d4⟩ ?_) ?_
            · intro j f hj hs3
              obtain ⟨f1, f2, f3, f4⟩ := hs3
              unfold m_X9_makeTable_52
              rw [ew]
              refine wp_gd (by omega) (wp_eq (q_sizeOf 6 6 nw (Or.inr (Or.inl ⟨rfl, rfl⟩)) rfl (hW.2.2.2.2 _).1 hwr) (wp_gd (by omega) (wp_gd (by omega) (wp_if (fun c3 => ?_) (fun c3 => ?_)))))
              · refine wp_end (by decide) ⟨?_, f3, f4⟩
                rw [show nw = j by omega]
                exact f2
              · have hjn : j < nw := by omega
                have hp := hwr.2.2.2.1 j hjn
                have hlt2 := pfx_lt hwr j (by omega)
                refine wp_gd (by omega) (wp_eq (q_piece 6 j (Or.inr (Or.inl rfl)) rfl f1 (hW.2.2.2.2 _).1 (by omega)) ?_)
                refine wp_bind (q_oneSound (s := sn (B 4 w) j) (ss := pfx (B 4 w) j) hB ht hn (by omega) (by unfold sn; omega) hlt2 (by rw [pfx_len]; omega) f2 f3 f4 a1 (by unfold sn; omega) en esl) ?_
                rintro ⟨re2, ne2⟩ ⟨h1, h2, h3⟩
                exact wp_vl (wp_go ⟨by omega, by show f.1 + 1 = _; omega, h1, h2, h3⟩)
            · rintro ⟨t52, y3', re2, ne2⟩ ⟨f1, f2, f3⟩
              have f1 : TO B t n a (pfx (B 4 w) nw) re2 := f1
              refine wp_eq (q_cell _ _ _) (wp_eq (q_keepRow (d := 37 * (540 * a + 9 * w)) (by omega) (by omega)) ?_)
              have h9 := TBL.row (a := a) (e := 9 * w) (re := re2) d2 (by omega) f2 (by rw [hs0]; exact f1)
              refine wp_bind (q_mkEnd hB hW ht hn (by omega) hwW h9 f2 f3 a1 d1 en esl _) ?_
              rintro ⟨t104, y3'', tb3, re3, ne3⟩ ⟨k1, k2, k3⟩
              exact wp_vl (wp_go ⟨by omega, by show d.1 + 1 = _; omega, k1, k2, k3⟩)
      · rintro ⟨t12, y2, tb2, re2, ne2⟩ ⟨k1, k2, k3⟩
        exact wp_vl (wp_go ⟨by omega, by show b.1 + 1 = _; omega, k1, k2, k3⟩)
  · rintro ⟨t2, y1, tb2, re2, ne2⟩ hu
    exact wp_some hu
